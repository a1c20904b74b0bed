section
variable {w : PW} {z : Nat → Int32} {g : Nat → Nat → Int32} {e : Value} {P : List Nat} {rd : Int32} {r n : Nat} {L : List Int32} {f : Nat → Int32}
theorem qW_isByte (b : Int32) (w : PW) : fW_isByte b w = some (.inl (some (.int (if 0 ≤ b.toInt ∧ b.toInt ≤ 255 then 1 else 0))), w) := by
  unfold fW_isByte
  have a1 : b < 0 ↔ b.toInt < 0 := q_lti
  have a2 : 255 < b ↔ 255 < b.toInt := q_lti
  simp only [a1, a2, q_ret0, q_ret1]
  by_cases h1 : b.toInt < 0
  · rw [if_pos h1, if_neg (by omega)]
  · rw [if_neg h1]
    by_cases h2 : 255 < b.toInt
    · rw [if_pos h2, if_neg (by omega)]
    · rw [if_neg h2, if_pos (by omega)]
theorem q_band {b : Int32} (h0 : 0 ≤ b.toInt) (h1 : b.toInt ≤ 255) : b &&& 255 = b := by
  have hb : b = Int32.ofNat b.toInt.toNat := q_on b h0
  have hx : ∀ n : Nat, n ≤ 255 → Int32.ofNat n &&& 255 = Int32.ofNat n := by decide +kernel
  rw [hb]
  exact hx _ (by omega)
/-- the row of bytes and the reference's row say the same -/
def qY (g : Nat → Nat → Int32) (k : Nat) (L : List Int32) : Prop := ∀ i (h : i < L.length), g k i = L[i]
theorem qY.snoc {k : Nat} (h : qY g k L) (b : Int32) : qY (ug g k L.length b) k (L ++ [b]) := by
  intro i hi
  rw [ug_self]
  unfold upd
  by_cases e : i = L.length
  · subst e
    rw [if_pos rfl]
    simp
  · rw [if_neg e, List.getElem_append_left (by simp at hi; omega)]
    exact h i _
/-- how a feed ends -/
def q_fdc (m : Nat) (b : Int32) : Int32 := if ¬ (0 ≤ b.toInt ∧ b.toInt ≤ 255) then 1 else if 20000 ≤ m then 2 else 0
theorem qW_feed (ho : qCo w rd) (hb : qB w 12 r 20000 n L f) (hr0 : r ≠ 0) (b : Int32) :
    (q_fdc L.length b = 1 → ∃ w', fW_feed 0 b w = some (.inr "java/lang/IllegalArgumentException", w') ∧ qT w w') ∧
    (q_fdc L.length b = 2 → ∃ w', fW_feed 0 b w = some (.inr "java/lang/UnsupportedOperationException", w') ∧ qT w w') ∧
    (q_fdc L.length b = 0 → ∃ w' r' n' f', fW_feed 0 b w = some (.inl (some (.int (Int32.ofNat (L.length + 1)))), w') ∧ qB w' 12 r' 20000 n' (L ++ [b]) f' ∧ qF (fun x => x = 12 ∨ x = r) w w' ∧ (r' = r ∨ w.1.length ≤ r') ∧ n ≤ n' ∧ w'.2.2 + 7 * n ≤ w.2.2 + 7 * n') := by
  unfold fW_feed q_fdc
  rw [qW_isByte, q_call, q_kI]
  by_cases h1 : 0 ≤ b.toInt ∧ b.toInt ≤ 255
  · rw [if_pos h1, if_pos (show ¬ (1 : Int32) = 0 by decide), if_neg (not_not_intro h1), q_getR (k := 4) ho rfl, Option.bind_some, q_obj hb.o, Option.bind_some]
    obtain ⟨v, w1, r', n', f', g1, hv, b1, F1, e1, n1, c1⟩ := hb.append b
    rw [g1, q_call, q_kI]
    have hm := hb.2.2.2.1
    by_cases h2 : 20000 ≤ L.length
    · have hL : L.length = 20000 := by omega
      rw [if_pos h2]
      refine ⟨fun e => absurd e (by decide), fun _ => ?_, fun e => absurd e (by decide)⟩
      have hv0 : v = 0 := by rw [hv, if_neg (by omega)]
      have g2 : fBytes_append 12 b w = some (.inl (some (.int 0)), w) := by
        have hi0 : p_getI w 12 2 2 = some (Int32.ofNat L.length) := q_getI hb.o rfl
        have hi1 : p_getI w 12 2 0 = some (Int32.ofNat 20000) := q_getI hb.o rfl
        unfold fBytes_append
        rw [hi0, Option.bind_some, hi1, Option.bind_some, if_neg (fun hh => by have := (q_lt (m := L.length) (n := 20000) (by omega) (by omega)).mp hh; omega)]
        rfl
      rw [g1] at g2
      cases g2
      rw [if_neg (not_not_intro rfl)]
      exact q_throw _ _
    · rw [if_neg h2]
      refine ⟨fun e => absurd e (by decide), fun e => absurd e (by decide), fun _ => ?_⟩
      have hv1 : v = 1 := by rw [hv, if_pos (by omega)]
      have hap : q_app 20000 L b = L ++ [b] := by unfold q_app; rw [if_pos (by omega), q_band h1.1 h1.2]
      rw [hap] at b1
      have ho1 : qCo w1 rd := by
        unfold qCo
        rw [q_keepF F1 (q_lt_len ho) (by rintro (h | h); cases h; exact hr0 h.symm)]
        exact ho
      rw [hv1, if_pos (show ¬ (1 : Int32) = 0 by decide), q_getR (k := 4) ho1 rfl, Option.bind_some, q_getI (k := 2) b1.o rfl, Option.bind_some]
      refine ⟨w1, r', n', f', ?_, b1, F1, e1, n1, c1⟩
      simp
  · rw [if_neg h1, if_neg (show ¬ ¬ (0 : Int32) = 0 from not_not_intro rfl), if_pos h1]
    exact ⟨fun _ => q_throw _ _, fun e => absurd e (by decide), fun e => absurd e (by decide)⟩
theorem qM.fd32 (h : qM w z g) (b s0 : Int32) (hs : s0 = 1 ∨ s0 = 2) : ∃ w', fD_feed_32 37 b s0 37 w = some (.inl (some (.int 0)), w') ∧ qM w' (upd z 0 s0) g ∧ qI 37 66 w w' := by
  obtain ⟨w1, g1, q1, F1⟩ := h.put 0 s0 (by omega) rfl
  unfold fD_feed_32
  rw [g1, Option.bind_some, q1.I 0 rfl, Option.bind_some, show upd z 0 s0 0 = s0 from rfl, if_neg (by rcases hs with e | e <;> subst e <;> decide)]
  exact ⟨w1, rfl, q1, F1⟩
theorem qM.feed (h : qM w z g) (m : Nat) (hz : z 22 = Int32.ofNat m) (hm : m ≤ 20000) (b : Int32) :
    ∃ w' v, fD_feed 37 b w = some (.inl (some (.int v)), w') ∧ qI 37 66 w w' ∧ (¬ q_fdc m b = 0 → qM w' (upd z 0 (q_fdc m b)) g) ∧ (q_fdc m b = 0 → v = Int32.ofNat (m + 1) ∧ qM w' (upd (upd z 0 0) 22 (Int32.ofNat (m + 1))) (ug g 53 m b)) := by
  unfold fD_feed q_fdc
  rw [q_in, q_call, q_kI, q_64, q_e0, q_e255]
  by_cases h1 : 0 ≤ b.toInt ∧ b.toInt ≤ 255
  · rw [if_pos h1, if_pos (show ¬ (1 : Int32) = 0 by decide), if_neg (not_not_intro h1), h.I 22 rfl, Option.bind_some, hz]
    by_cases h2 : 20000 ≤ m
    · have : m = 20000 := by omega
      subst this
      rw [if_neg (show ¬ ¬ Int32.ofNat 20000 = 20000 from not_not_intro rfl), if_pos h2]
      obtain ⟨w1, g1, q1, F1⟩ := h.fd32 b 2 (Or.inr rfl)
      exact ⟨w1, 0, g1, F1, fun _ => q1, fun e => absurd e (by decide)⟩
    · have hne : ¬ Int32.ofNat m = 20000 := fun e => by
        have := congrArg Int32.toNatClampNeg e
        rw [q_tno (by omega)] at this
        have e8 : (20000 : Int32).toNatClampNeg = 20000 := rfl
        omega
      rw [if_pos hne, if_neg h2]
      obtain ⟨w1, g1, q1, F1⟩ := h.put 0 0 (by omega) rfl
      unfold fD_feed_32
      rw [g1, Option.bind_some, q1.I 0 rfl, Option.bind_some, show upd z 0 0 0 = 0 from rfl, if_pos (by decide)]
      have z1 : upd z 0 0 22 = Int32.ofNat m := hz
      rw [q1.R 21 53 rfl, Option.bind_some, q1.I 22 rfl, Option.bind_some, z1]
      obtain ⟨w2, g2, q2, F2⟩ := q1.stn 53 0 m b rfl (by omega) (by omega) (by show m < 20000; omega) (by decide)
      rw [g2, Option.bind_some, q2.I 22 rfl, Option.bind_some, z1, show Int32.ofNat m + 1 = Int32.ofNat (m + 1) from (Int32.ofNat_add m 1).symm]
      obtain ⟨w5, g5, q5, F5⟩ := q2.put 22 (Int32.ofNat (m + 1)) (by omega) rfl
      rw [g5, Option.bind_some, q5.I 22 rfl, Option.bind_some, show upd (upd z 0 0) 22 (Int32.ofNat (m + 1)) 22 = Int32.ofNat (m + 1) from rfl]
      exact ⟨w5, _, rfl, (F1.tr F2).tr F5, fun hh => absurd rfl hh, fun _ => ⟨rfl, q5⟩⟩
  · rw [if_neg h1, if_neg (show ¬ ¬ (0 : Int32) = 0 from not_not_intro rfl), if_pos h1]
    obtain ⟨w1, g1, q1, F1⟩ := h.fd32 b 1 (Or.inl rfl)
    exact ⟨w1, 0, g1, F1, fun _ => q1, fun e => absurd e (by decide)⟩
/-- cut -/
theorem q_min2 {x : Int32} {m : Nat} (h0 : 0 ≤ x.toInt) (hm : m ≤ 20000) : p_min x (Int32.ofNat m) = Int32.ofNat (min x.toInt.toNat m) := by
  rw [q_on x h0, q_min (by have := q_top x; omega) (by omega), ← q_on x h0]
theorem qB.cut (h : qB w 12 r 20000 n L f) (k : Nat) : ∃ w', p_put w 12 2 2 (.int (Int32.ofNat (min k L.length))) = some w' ∧ qB w' 12 r 20000 n (L.take k) f ∧ qE 12 w w' := by
  have hne := h.ne
  obtain ⟨ho, hd, h1, h2, h3, h4, h5, h6, h7⟩ := h
  obtain ⟨w1, g1, s1, F1⟩ := o_put (k := 2) ho (by simp) (.int (Int32.ofNat (min k L.length)))
  refine ⟨w1, g1, ⟨?_, F1.at hd hne.symm, by rw [List.length_take]; omega, by rw [List.length_take]; omega, h3, h4, h5, h6, fun i hi => ?_⟩, F1⟩
  · rw [s1, List.length_take]
    rfl
  · rw [List.length_take] at hi
    rw [h7 i (by omega), List.getElem_take]
theorem qW_cut (ho : qCo w rd) (hb : qB w 12 r 20000 n L f) (hr0 : r ≠ 0) (k : Int32) :
    (k < 0 → ∃ w', fW_cut 0 k w = some (.inr "java/lang/IllegalArgumentException", w') ∧ qT w w') ∧
    (¬ k < 0 → ∃ w', fW_cut 0 k w = some (.inl (some (.int (Int32.ofNat (min k.toInt.toNat L.length)))), w') ∧ qB w' 12 r 20000 n (L.take k.toInt.toNat) f ∧ qE 12 w w') := by
  have hm := hb.2.2.2.1
  unfold fW_cut
  constructor
  · intro h
    rw [if_neg (by grind)]
    exact q_throw _ _
  · intro h
    have h0 := q_nn h
    rw [if_pos (q_0le h), q_getR (k := 4) ho rfl, Option.bind_some, Option.bind_some, q_getI (k := 2) hb.o rfl, Option.bind_some, q_min2 h0 hm]
    obtain ⟨w1, g1, b1, F1⟩ := hb.cut k.toInt.toNat
    have ho1 : qCo w1 rd := F1.at ho (by decide)
    rw [g1, Option.bind_some, q_getR (k := 4) ho1 rfl, Option.bind_some, q_getI (k := 2) b1.o rfl, Option.bind_some, List.length_take]
    exact ⟨w1, rfl, b1, F1⟩
theorem qM.cut (h : qM w z g) (m : Nat) (hz : z 22 = Int32.ofNat m) (hm : m ≤ 20000) (k : Int32) :
    ∃ w' v, fD_cut 37 k w = some (.inl (some (.int v)), w') ∧ qI 37 66 w w' ∧ (k < 0 → qM w' (upd z 0 1) g) ∧ (¬ k < 0 → v = Int32.ofNat (min k.toInt.toNat m) ∧ qM w' (upd (upd z 0 0) 22 (Int32.ofNat (min k.toInt.toNat m))) g) := by
  unfold fD_cut fD_cut_10
  by_cases hk : k < 0
  · rw [if_neg (by grind)]
    obtain ⟨w1, g1, q1, F1⟩ := h.put 0 1 (by omega) rfl
    rw [g1, Option.bind_some, q1.I 0 rfl, Option.bind_some, show upd z 0 1 0 = 1 from rfl, if_neg (by decide)]
    exact ⟨w1, 0, rfl, F1, fun _ => q1, fun e => absurd hk e⟩
  · have h0 := q_nn hk
    rw [if_pos (q_0le hk)]
    obtain ⟨w1, g1, q1, F1⟩ := h.put 0 0 (by omega) rfl
    have z1 : upd z 0 0 22 = Int32.ofNat m := hz
    rw [g1, Option.bind_some, q1.I 0 rfl, Option.bind_some, show upd z 0 0 0 = 0 from rfl, if_pos (by decide), q1.I 22 rfl, Option.bind_some, z1]
    have key : ∀ s0 : Int32, s0 = Int32.ofNat (min k.toInt.toNat m) → ∃ w' v, fD_cut_39 37 s0 37 w1 = some (.inl (some (.int v)), w') ∧ qI 37 66 w w' ∧ (k < 0 → qM w' (upd z 0 1) g) ∧ (¬ k < 0 → v = Int32.ofNat (min k.toInt.toNat m) ∧ qM w' (upd (upd z 0 0) 22 (Int32.ofNat (min k.toInt.toNat m))) g) := by
      intro s0 hs
      subst hs
      unfold fD_cut_39
      obtain ⟨w2, g2, q2, F2⟩ := q1.put 22 (Int32.ofNat (min k.toInt.toNat m)) (by omega) rfl
      rw [g2, Option.bind_some, q2.I 22 rfl, Option.bind_some]
      exact ⟨w2, _, rfl, F1.tr F2, fun e => absurd e hk, fun _ => ⟨rfl, q2⟩⟩
    have c1 : Int32.ofNat m ≤ k ↔ m ≤ k.toInt.toNat := by
      rw [q_lei, q_ofi (by omega)]
      omega
    by_cases hc : m ≤ k.toInt.toNat
    · rw [if_pos (c1.mpr hc), Option.bind_some]
      exact key _ (by rw [Nat.min_eq_right hc])
    · rw [if_neg (fun hh => hc (c1.mp hh))]
      exact key k (by rw [Nat.min_eq_left (by omega)]; exact q_on k h0)
/-- refusals where nothing is written, fed, read -/
theorem qW_byteAt1 (ho : qCo w rd) (h9 : w.1[9]? = some (.inr (9, [.ref 10]))) (hb : qB w 10 r 20000 n L f) (i : Int32) (hi : ¬ (0 ≤ i.toInt ∧ i.toInt < L.length)) : ∃ w', fW_byteAt 0 i w = some (.inr "java/lang/IndexOutOfBoundsException", w') ∧ qT w w' := by
  have hm := hb.2.2.2.1
  unfold fW_byteAt fW_byteAt_18
  rcases q_nin (by omega) hi with h | h
  · rw [if_pos h]; exact q_throw _ _
  · rw [q_getR (k := 3) ho rfl, Option.bind_some, q_getR (k := 0) h9 rfl, Option.bind_some, q_getI (k := 2) hb.o rfl, Option.bind_some, if_neg h]
    split <;> exact q_throw _ _
theorem qM.byteAt1 (h : qM w z g) (m : Nat) (hz : z 20 = Int32.ofNat m) (hm : m ≤ 40000) (i : Int32) (hi : ¬ (0 ≤ i.toInt ∧ i.toInt < m)) : ∃ w', fD_byteAt 37 i w = some (.inl (some (.int 0)), w') ∧ qM w' (upd z 0 1) g ∧ qI 37 66 w w' := by
  unfold fD_byteAt fD_byteAt_22
  rw [h.I 20 rfl, Option.bind_some, hz, q_in, q_call, q_kI, q_64, q_sub1 (by rw [q_ofi (by omega)]; omega), q_ofi (by omega), q_e0, if_neg (show ¬ (0 ≤ i.toInt ∧ i.toInt ≤ (m : Int) - 1) by omega), if_pos rfl]
  obtain ⟨w1, g1, q1, F1⟩ := h.put 0 1 (by omega) rfl
  rw [g1, Option.bind_some, q1.I 0 rfl, Option.bind_some, show upd z 0 1 0 = 1 from rfl, if_neg (by decide)]
  exact ⟨w1, rfl, q1, F1⟩
theorem qW_pass1 (ho : qCo w rd) (h9 : w.1[9]? = some (.inr (9, [.ref 10]))) (hb : qB w 10 r 20000 n L f) (i k : Int32) (hi : ¬ (0 ≤ i.toInt ∧ i.toInt < L.length)) : ∃ w', fW_pass 0 i k w = some (.inr "java/lang/IndexOutOfBoundsException", w') ∧ qT w w' := by
  have hm := hb.2.2.2.1
  unfold fW_pass fW_pass_18
  rcases q_nin (by omega) hi with h | h
  · rw [if_pos h]; exact q_throw _ _
  · rw [q_getR (k := 3) ho rfl, Option.bind_some, q_getR (k := 0) h9 rfl, Option.bind_some, q_getI (k := 2) hb.o rfl, Option.bind_some, if_neg h]
    split <;> exact q_throw _ _
theorem qM.pass1 (h : qM w z g) (m : Nat) (hz : z 20 = Int32.ofNat m) (hm : m ≤ 40000) (i k : Int32) (hi : ¬ (0 ≤ i.toInt ∧ i.toInt < m)) : ∃ w', fD_pass 37 i k w = some (.inl (some (.int 0)), w') ∧ qM w' (upd z 0 1) g ∧ qI 37 66 w w' := by
  obtain ⟨w1, g1, q1, F1⟩ := h.put 0 1 (by omega) rfl
  have key : ∀ s0, fD_pass_20 37 i k s0 w = some (.inl (some (.int 0)), w1) := fun s0 => by
    unfold fD_pass_20 fD_pass_67
    rw [h.I 20 rfl, Option.bind_some, hz, q_in, q_call, q_kI, q_64, q_sub1 (by rw [q_ofi (by omega)]; omega), q_ofi (by omega), q_e0, if_neg (show ¬ (0 ≤ i.toInt ∧ i.toInt ≤ (m : Int) - 1) by omega), if_neg (show ¬ ¬ (0 : Int32) = 0 from not_not_intro rfl), g1, Option.bind_some, q1.I 0 rfl, Option.bind_some, show upd z 0 1 0 = 1 from rfl, if_neg (by decide)]
  unfold fD_pass
  rw [h.I 20 rfl, Option.bind_some, key, Option.bind_some, key]
  split <;> exact ⟨w1, rfl, q1, F1⟩
theorem qW_alter1 (ho : qCo w rd) (hb : qB w 12 r 20000 n L f) (i k : Int32) (hi : ¬ (0 ≤ i.toInt ∧ i.toInt < L.length)) : ∃ w', fW_alter 0 i k w = some (.inr "java/lang/IndexOutOfBoundsException", w') ∧ qT w w' := by
  have hm := hb.2.2.2.1
  unfold fW_alter fW_alter_15
  rcases q_nin (by omega) hi with h | h
  · rw [if_pos h]; exact q_throw _ _
  · rw [q_getR (k := 4) ho rfl, Option.bind_some, q_getI (k := 2) hb.o rfl, Option.bind_some, if_neg h]
    split <;> exact q_throw _ _
theorem qM.alter1 (h : qM w z g) (m : Nat) (hz : z 22 = Int32.ofNat m) (hm : m ≤ 20000) (i k : Int32) (hi : ¬ (0 ≤ i.toInt ∧ i.toInt < m)) : ∃ w', fD_alter 37 i k w = some (.inl (some (.int 0)), w') ∧ qM w' (upd z 0 1) g ∧ qI 37 66 w w' := by
  unfold fD_alter fD_alter_38
  rw [h.I 22 rfl, Option.bind_some, hz, q_in, q_call, q_kI, q_64, q_sub1 (by rw [q_ofi (by omega)]; omega), q_ofi (by omega), q_e0, if_neg (show ¬ (0 ≤ i.toInt ∧ i.toInt ≤ (m : Int) - 1) by omega), if_neg (show ¬ ¬ (0 : Int32) = 0 from not_not_intro rfl)]
  obtain ⟨w1, g1, q1, F1⟩ := h.put 0 1 (by omega) rfl
  rw [g1, Option.bind_some, q1.I 0 rfl, Option.bind_some, show upd z 0 1 0 = 1 from rfl, if_neg (by decide)]
  exact ⟨w1, rfl, q1, F1⟩
/-- nothing read -/
theorem qW_at1 (ho : qCo w 0) (a b c : Int32) : ∃ w', fW_at 0 a b c w = some (.inr "java/lang/IllegalStateException", w') ∧ qT w w' := by
  unfold fW_at
  rw [q_getI (k := 10) ho rfl, Option.bind_some, if_neg (show ¬ ¬ (0 : Int32) = 0 from not_not_intro rfl)]
  exact q_throw _ _
theorem qW_part1 (ho : qCo w 0) (a b : Int32) : ∃ w', fW_part 0 a b w = some (.inr "java/lang/IllegalStateException", w') ∧ qT w w' := by
  unfold fW_part
  rw [q_getI (k := 10) ho rfl, Option.bind_some, if_neg (show ¬ ¬ (0 : Int32) = 0 from not_not_intro rfl)]
  exact q_throw _ _
theorem qW_partByte1 (ho : qCo w 0) (a b : Int32) : ∃ w', fW_partByte 0 a b w = some (.inr "java/lang/IllegalStateException", w') ∧ qT w w' := by
  unfold fW_partByte
  rw [q_getI (k := 10) ho rfl, Option.bind_some, if_neg (show ¬ ¬ (0 : Int32) = 0 from not_not_intro rfl)]
  exact q_throw _ _
theorem qM.part1 (h : qM w z g) (hz : z 25 = 0) (a b : Int32) : ∃ w', fD_part 37 a b w = some (.inl (some (.int 0)), w') ∧ qM w' (upd z 0 1) g ∧ qI 37 66 w w' := by
  unfold fD_part fD_part_33
  obtain ⟨w1, g1, q1, F1⟩ := h.put 0 1 (by omega) rfl
  rw [h.I 25 rfl, Option.bind_some, hz, if_neg (show ¬ ¬ (0 : Int32) = 0 from not_not_intro rfl), g1, Option.bind_some, q1.I 0 rfl, Option.bind_some, show upd z 0 1 0 = 1 from rfl, if_neg (by decide)]
  exact ⟨w1, rfl, q1, F1⟩
theorem qM.partByte1 (h : qM w z g) (hz : z 25 = 0) (a b : Int32) : ∃ w', fD_partByte 37 a b w = some (.inl (some (.int 0)), w') ∧ qM w' (upd z 0 1) g ∧ qI 37 66 w w' := by
  unfold fD_partByte fD_partByte_51
  obtain ⟨w1, g1, q1, F1⟩ := h.put 0 1 (by omega) rfl
  rw [h.I 25 rfl, Option.bind_some, hz, if_neg (show ¬ ¬ (0 : Int32) = 0 from not_not_intro rfl), g1, Option.bind_some, q1.I 0 rfl, Option.bind_some, show upd z 0 1 0 = 1 from rfl, if_neg (by decide)]
  exact ⟨w1, rfl, q1, F1⟩
theorem qM.at1 (h : qM w z g) (hz : z 25 = 0) (a b c : Int32) : ∃ w', fD_at 37 a b c w = some (.inl (some (.int 0)), w') ∧ qM w' (upd z 0 1) g ∧ qI 37 66 w w' := by
  obtain ⟨w1, g1, q1, F1⟩ := h.put 0 1 (by omega) rfl
  have k0 : fD_at_121 37 a b c 0 w = some (.inl (some (.int 0)), w1) := by
    unfold fD_at_121 fD_at_145
    rw [h.I 25 rfl, Option.bind_some, hz, if_neg (show ¬ ¬ (0 : Int32) = 0 from not_not_intro rfl), g1, Option.bind_some, q1.I 0 rfl, Option.bind_some, show upd z 0 1 0 = 1 from rfl, if_neg (by decide)]
  have k1 : ∀ x y, fD_at_49 37 a b c x y w = some (.inl (some (.int 0)), w1) := fun x y => by
    unfold fD_at_49
    rw [h.I 25 rfl, Option.bind_some, hz, if_pos rfl, k0]
  have k2 : ∀ x, fD_at_26 37 a b c x w = some (.inl (some (.int 0)), w1) := fun x => by
    unfold fD_at_26
    rw [k1, k1]
    (repeat' split) <;> rfl
  refine ⟨w1, ?_, q1, F1⟩
  unfold fD_at fD_at_11
  rw [k2, k2]
  (repeat' split) <;> rfl
theorem qW_unknown1 (ho : qCo w rd) {c0 c1 c2 : Int32} (h22 : w.1[22]? = some (.inr (1, [.ref 14, .ref 23, .ref 25, .int c0, .int c1, .int c2]))) {f : Nat → Int32} (hn : qN w 23 r n L f) (i k : Int32) (hi : ¬ (0 ≤ i.toInt ∧ i.toInt < L.length)) : ∃ w', fW_unknown 0 i k w = some (.inr "java/lang/IndexOutOfBoundsException", w') ∧ qT w w' := by
  have hL : L.length ≤ 4096 := by
    have := hn.2.2.1
    have := hn.2.2.2.1
    omega
  unfold fW_unknown fW_unknown_18
  rcases q_nin (by omega) hi with h | h
  · rw [if_pos h]; exact q_throw _ _
  · rw [q_getR (k := 7) ho rfl, Option.bind_some, q_getR (k := 1) h22 rfl, Option.bind_some, q_getI (k := 1) hn.1 rfl, Option.bind_some, if_neg h]
    split <;> exact q_throw _ _
theorem qM.unknown1 (h : qM w z g) (m : Nat) (hz : z 27 = Int32.ofNat m) (hm : m ≤ 2600) (i k : Int32) (hi : ¬ (0 ≤ i.toInt ∧ i.toInt < m)) : ∃ w', fD_unknown 37 i k w = some (.inl (some (.int 0)), w') ∧ qM w' (upd z 0 1) g ∧ qI 37 66 w w' := by
  unfold fD_unknown fD_unknown_42
  rw [h.I 27 rfl, Option.bind_some, hz, q_in, q_call, q_kI, q_64, q_sub1 (by rw [q_ofi (by omega)]; omega), q_ofi (by omega), q_e0, if_neg (show ¬ (0 ≤ i.toInt ∧ i.toInt ≤ (m : Int) - 1) by omega), if_pos rfl]
  obtain ⟨w1, g1, q1, F1⟩ := h.put 0 1 (by omega) rfl
  rw [g1, Option.bind_some, q1.I 0 rfl, Option.bind_some, show upd z 0 1 0 = 1 from rfl, if_neg (by decide)]
  exact ⟨w1, rfl, q1, F1⟩
end
