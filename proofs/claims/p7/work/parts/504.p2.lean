section
variable {w : PW} {z : Nat → Int32} {g : Nat → Nat → Int32} {e : Value} {P : List Nat} {rd : Int32} {r n : Nat} {L : List Int32} {f : Nat → Int32}
theorem qW_isByte (b : Int32) (w : PW) : fW_isByte b w = some (.inl (some (.int (if 0 ≤ b.toInt ∧ b.toInt ≤ 255 then 1 else 0))), w) := by
  unfold fW_isByte
  have a1 : b < 0 ↔ b.toInt < 0 := q_lti
  have a2 : 255 < b ↔ 255 < b.toInt := q_lti
  simp only [a1, a2, q_ret0, q_ret1]
  by_cases h1 : b.toInt < 0
  · rw [if_pos h1, if_neg (by omega)]
  · rw [if_neg h1]
    by_cases h2 : 255 < b.toInt
    · rw [if_pos h2, if_neg (by omega)]
    · rw [if_neg h2, if_pos (by omega)]
theorem q_band {b : Int32} (h0 : 0 ≤ b.toInt) (h1 : b.toInt ≤ 255) : b &&& 255 = b := by
  have hb : b = Int32.ofNat b.toInt.toNat := q_on b h0
  have hx : ∀ n : Nat, n ≤ 255 → Int32.ofNat n &&& 255 = Int32.ofNat n := by decide +kernel
  rw [hb]
  exact hx _ (by omega)
/-- the row of bytes and the reference's row say the same -/
def qY (g : Nat → Nat → Int32) (k : Nat) (L : List Int32) : Prop := ∀ i (h : i < L.length), g k i = L[i]
theorem qY.snoc {k : Nat} (h : qY g k L) (b : Int32) : qY (ug g k L.length b) k (L ++ [b]) := by
  intro i hi
  rw [ug_self]
  unfold upd
  by_cases e : i = L.length
  · subst e
    rw [if_pos rfl]
    simp
  · rw [if_neg e, List.getElem_append_left (by simp at hi; omega)]
    exact h i _
/-- how a feed ends -/
def q_fdc (m : Nat) (b : Int32) : Int32 := if ¬ (0 ≤ b.toInt ∧ b.toInt ≤ 255) then 1 else if 20000 ≤ m then 2 else 0
theorem qW_feed (ho : qCo w rd) (hb : qB w 12 r 20000 n L f) (hr0 : r ≠ 0) (b : Int32) :
    (q_fdc L.length b = 1 → ∃ w', fW_feed 0 b w = some (.inr "java/lang/IllegalArgumentException", w') ∧ qT w w') ∧
    (q_fdc L.length b = 2 → ∃ w', fW_feed 0 b w = some (.inr "java/lang/UnsupportedOperationException", w') ∧ qT w w') ∧
    (q_fdc L.length b = 0 → ∃ w' r' n' f', fW_feed 0 b w = some (.inl (some (.int (Int32.ofNat (L.length + 1)))), w') ∧ qB w' 12 r' 20000 n' (L ++ [b]) f' ∧ qF (fun x => x = 12 ∨ x = r) w w' ∧ (r' = r ∨ w.1.length ≤ r') ∧ n ≤ n' ∧ w'.2.2 + 7 * n ≤ w.2.2 + 7 * n') := by
  unfold fW_feed q_fdc
  rw [qW_isByte, q_call, q_kI]
  by_cases h1 : 0 ≤ b.toInt ∧ b.toInt ≤ 255
  · rw [if_pos h1, if_pos (show ¬ (1 : Int32) = 0 by decide), if_neg (not_not_intro h1), q_getR (k := 4) ho rfl, Option.bind_some, q_obj hb.o, Option.bind_some]
    obtain ⟨v, w1, r', n', f', g1, hv, b1, F1, e1, n1, c1⟩ := hb.append b
    rw [g1, q_call, q_kI]
    have hm := hb.2.2.2.1
    by_cases h2 : 20000 ≤ L.length
    · have hL : L.length = 20000 := by omega
      rw [if_pos h2]
      refine ⟨fun e => absurd e (by decide), fun _ => ?_, fun e => absurd e (by decide)⟩
      have hv0 : v = 0 := by rw [hv, if_neg (by omega)]
      have g2 : fBytes_append 12 b w = some (.inl (some (.int 0)), w) := by
        have hi0 : p_getI w 12 2 2 = some (Int32.ofNat L.length) := q_getI hb.o rfl
        have hi1 : p_getI w 12 2 0 = some (Int32.ofNat 20000) := q_getI hb.o rfl
        unfold fBytes_append
        rw [hi0, Option.bind_some, hi1, Option.bind_some, if_neg (fun hh => by have := (q_lt (m := L.length) (n := 20000) (by omega) (by omega)).mp hh; omega)]
        rfl
      rw [g1] at g2
      cases g2
      rw [if_neg (not_not_intro rfl)]
      exact q_throw _ _
    · rw [if_neg h2]
      refine ⟨fun e => absurd e (by decide), fun e => absurd e (by decide), fun _ => ?_⟩
      have hv1 : v = 1 := by rw [hv, if_pos (by omega)]
      have hap : q_app 20000 L b = L ++ [b] := by unfold q_app; rw [if_pos (by omega), q_band h1.1 h1.2]
      rw [hap] at b1
      have ho1 : qCo w1 rd := by
        unfold qCo
        rw [q_keepF F1 (q_lt_len ho) (by rintro (h | h); cases h; exact hr0 h.symm)]
        exact ho
      rw [hv1, if_pos (show ¬ (1 : Int32) = 0 by decide), q_getR (k := 4) ho1 rfl, Option.bind_some, q_getI (k := 2) b1.o rfl, Option.bind_some]
      refine ⟨w1, r', n', f', ?_, b1, F1, e1, n1, c1⟩
      simp
  · rw [if_neg h1, if_neg (show ¬ ¬ (0 : Int32) = 0 from not_not_intro rfl), if_pos h1]
    exact ⟨fun _ => q_throw _ _, fun e => absurd e (by decide), fun e => absurd e (by decide)⟩
theorem qM.fd32 (h : qM w z g) (b s0 : Int32) (hs : s0 = 1 ∨ s0 = 2) : ∃ w', fD_feed_32 37 b s0 37 w = some (.inl (some (.int 0)), w') ∧ qM w' (upd z 0 s0) g ∧ qI 37 66 w w' := by
  obtain ⟨w1, g1, q1, F1⟩ := h.put 0 s0 (by omega) rfl
  unfold fD_feed_32
  rw [g1, Option.bind_some, q1.I 0 rfl, Option.bind_some, show upd z 0 s0 0 = s0 from rfl, if_neg (by rcases hs with e | e <;> subst e <;> decide)]
  exact ⟨w1, rfl, q1, F1⟩
theorem qM.feed (h : qM w z g) (m : Nat) (hz : z 22 = Int32.ofNat m) (hm : m ≤ 20000) (b : Int32) :
    ∃ w' v, fD_feed 37 b w = some (.inl (some (.int v)), w') ∧ qI 37 66 w w' ∧ (¬ q_fdc m b = 0 → qM w' (upd z 0 (q_fdc m b)) g) ∧ (q_fdc m b = 0 → v = Int32.ofNat (m + 1) ∧ qM w' (upd (upd z 0 0) 22 (Int32.ofNat (m + 1))) (ug g 53 m b)) := by
  unfold fD_feed q_fdc
  rw [q_in, q_call, q_kI, q_64, q_e0, q_e255]
  by_cases h1 : 0 ≤ b.toInt ∧ b.toInt ≤ 255
  · rw [if_pos h1, if_pos (show ¬ (1 : Int32) = 0 by decide), if_neg (not_not_intro h1), h.I 22 rfl, Option.bind_some, hz]
    by_cases h2 : 20000 ≤ m
    · have : m = 20000 := by omega
      subst this
      rw [if_neg (show ¬ ¬ Int32.ofNat 20000 = 20000 from not_not_intro rfl), if_pos h2]
      obtain ⟨w1, g1, q1, F1⟩ := h.fd32 b 2 (Or.inr rfl)
      exact ⟨w1, 0, g1, F1, fun _ => q1, fun e => absurd e (by decide)⟩
    · have hne : ¬ Int32.ofNat m = 20000 := fun e => by
        have := congrArg Int32.toNatClampNeg e
        rw [q_tno (by omega)] at this
        have e8 : (20000 : Int32).toNatClampNeg = 20000 := rfl
        omega
      rw [if_pos hne, if_neg h2]
      obtain ⟨w1, g1, q1, F1⟩ := h.put 0 0 (by omega) rfl
      unfold fD_feed_32
      rw [g1, Option.bind_some, q1.I 0 rfl, Option.bind_some, show upd z 0 0 0 = 0 from rfl, if_pos (by decide)]
      have z1 : upd z 0 0 22 = Int32.ofNat m := hz
      rw [q1.R 21 53 rfl, Option.bind_some, q1.I 22 rfl, Option.bind_some, z1]
      obtain ⟨w2, g2, q2, F2⟩ := q1.stn 53 0 m b rfl (by omega) (by omega) (by show m < 20000; omega) (by decide)
      rw [g2, Option.bind_some, q2.I 22 rfl, Option.bind_some, z1, show Int32.ofNat m + 1 = Int32.ofNat (m + 1) from (Int32.ofNat_add m 1).symm]
      obtain ⟨w5, g5, q5, F5⟩ := q2.put 22 (Int32.ofNat (m + 1)) (by omega) rfl
      rw [g5, Option.bind_some, q5.I 22 rfl, Option.bind_some, show upd (upd z 0 0) 22 (Int32.ofNat (m + 1)) 22 = Int32.ofNat (m + 1) from rfl]
      exact ⟨w5, _, rfl, (F1.tr F2).tr F5, fun hh => absurd rfl hh, fun _ => ⟨rfl, q5⟩⟩
  · rw [if_neg h1, if_neg (show ¬ ¬ (0 : Int32) = 0 from not_not_intro rfl), if_pos h1]
    obtain ⟨w1, g1, q1, F1⟩ := h.fd32 b 1 (Or.inl rfl)
    exact ⟨w1, 0, g1, F1, fun _ => q1, fun e => absurd e (by decide)⟩
/-- cut -/
theorem q_min2 {x : Int32} {m : Nat} (h0 : 0 ≤ x.toInt) (hm : m ≤ 20000) : p_min x (Int32.ofNat m) = Int32.ofNat (min x.toInt.toNat m) := by
  rw [q_on x h0, q_min (by have := q_top x; omega) (by omega), ← q_on x h0]
theorem qB.cut (h : qB w 12 r 20000 n L f) (k : Nat) : ∃ w', p_put w 12 2 2 (.int (Int32.ofNat (min k L.length))) = some w' ∧ qB w' 12 r 20000 n (L.take k) f ∧ qE 12 w w' := by
  have hne := h.ne
  obtain ⟨ho, hd, h1, h2, h3, h4, h5, h6, h7⟩ := h
  obtain ⟨w1, g1, s1, F1⟩ := o_put (k := 2) ho (by simp) (.int (Int32.ofNat (min k L.length)))
  refine ⟨w1, g1, ⟨?_, F1.at hd hne.symm, by rw [List.length_take]; omega, by rw [List.length_take]; omega, h3, h4, h5, h6, fun i hi => ?_⟩, F1⟩
  · rw [s1, List.length_take]
    rfl
  · rw [List.length_take] at hi
    rw [h7 i (by omega), List.getElem_take]
theorem qW_cut (ho : qCo w rd) (hb : qB w 12 r 20000 n L f) (hr0 : r ≠ 0) (k : Int32) :
    (k < 0 → ∃ w', fW_cut 0 k w = some (.inr "java/lang/IllegalArgumentException", w') ∧ qT w w') ∧
    (¬ k < 0 → ∃ w', fW_cut 0 k w = some (.inl (some (.int (Int32.ofNat (min k.toInt.toNat L.length)))), w') ∧ qB w' 12 r 20000 n (L.take k.toInt.toNat) f ∧ qE 12 w w') := by
  have hm := hb.2.2.2.1
  unfold fW_cut
  constructor
  · intro h
    rw [if_neg (by grind)]
    exact q_throw _ _
  · intro h
    have h0 := q_nn h
    rw [if_pos (q_0le h), q_getR (k := 4) ho rfl, Option.bind_some, Option.bind_some, q_getI (k := 2) hb.o rfl, Option.bind_some, q_min2 h0 hm]
    obtain ⟨w1, g1, b1, F1⟩ := hb.cut k.toInt.toNat
    have ho1 : qCo w1 rd := F1.at ho (by decide)
    rw [g1, Option.bind_some, q_getR (k := 4) ho1 rfl, Option.bind_some, q_getI (k := 2) b1.o rfl, Option.bind_some, List.length_take]
    exact ⟨w1, rfl, b1, F1⟩
theorem qM.cut (h : qM w z g) (m : Nat) (hz : z 22 = Int32.ofNat m) (hm : m ≤ 20000) (k : Int32) :
    ∃ w' v, fD_cut 37 k w = some (.inl (some (.int v)), w') ∧ qI 37 66 w w' ∧ (k < 0 → qM w' (upd z 0 1) g) ∧ (¬ k < 0 → v = Int32.ofNat (min k.toInt.toNat m) ∧ qM w' (upd (upd z 0 0) 22 (Int32.ofNat (min k.toInt.toNat m))) g) := by
  unfold fD_cut fD_cut_10
  by_cases hk : k < 0
  · rw [if_neg (by grind)]
    obtain ⟨w1, g1, q1, F1⟩ := h.put 0 1 (by omega) rfl
    rw [g1, Option.bind_some, q1.I 0 rfl, Option.bind_some, show upd z 0 1 0 = 1 from rfl, if_neg (by decide)]
    exact ⟨w1, 0, rfl, F1, fun _ => q1, fun e => absurd hk e⟩
  · have h0 := q_nn hk
    rw [if_pos (q_0le hk)]
    obtain ⟨w1, g1, q1, F1⟩ := h.put 0 0 (by omega) rfl
    have z1 : upd z 0 0 22 = Int32.ofNat m := hz
    rw [g1, Option.bind_some, q1.I 0 rfl, Option.bind_some, show upd z 0 0 0 = 0 from rfl, if_pos (by decide), q1.I 22 rfl, Option.bind_some, z1]
    have key : ∀ s0 : Int32, s0 = Int32.ofNat (min k.toInt.toNat m) → ∃ w' v, fD_cut_39 37 s0 37 w1 = some (.inl (some (.int v)), w') ∧ qI 37 66 w w' ∧ (k < 0 → qM w' (upd z 0 1) g) ∧ (¬ k < 0 → v = Int32.ofNat (min k.toInt.toNat m) ∧ qM w' (upd (upd z 0 0) 22 (Int32.ofNat (min k.toInt.toNat m))) g) := by
      intro s0 hs
      subst hs
      unfold fD_cut_39
      obtain ⟨w2, g2, q2, F2⟩ := q1.put 22 (Int32.ofNat (min k.toInt.toNat m)) (by omega) rfl
      rw [g2, Option.bind_some, q2.I 22 rfl, Option.bind_some]
      exact ⟨w2, _, rfl, F1.tr F2, fun e => absurd e hk, fun _ => ⟨rfl, q2⟩⟩
    have c1 : Int32.ofNat m ≤ k ↔ m ≤ k.toInt.toNat := by
      rw [q_lei, q_ofi (by omega)]
      omega
    by_cases hc : m ≤ k.toInt.toNat
    · rw [if_pos (c1.mpr hc), Option.bind_some]
      exact key _ (by rw [Nat.min_eq_right hc])
    · rw [if_neg (fun hh => hc (c1.mp hh))]
      exact key k (by rw [Nat.min_eq_left (by omega)]; exact q_on k h0)
/-- refusals where nothing is written, fed, read -/
theorem qW_byteAt1 (ho : qCo w rd) (h9 : w.1[9]? = some (.inr (9, [.ref 10]))) (hb : qB w 10 r 20000 n L f) (i : Int32) (hi : ¬ (0 ≤ i.toInt ∧ i.toInt < L.length)) : ∃ w', fW_byteAt 0 i w = some (.inr "java/lang/IndexOutOfBoundsException", w') ∧ qT w w' := by
  have hm := hb.2.2.2.1
  unfold fW_byteAt fW_byteAt_18
  rcases q_nin (by omega) hi with h | h
  · rw [if_pos h]; exact q_throw _ _
  · rw [q_getR (k := 3) ho rfl, Option.bind_some, q_getR (k := 0) h9 rfl, Option.bind_some, q_getI (k := 2) hb.o rfl, Option.bind_some, if_neg h]
    split <;> exact q_throw _ _
theorem qM.byteAt1 (h : qM w z g) (m : Nat) (hz : z 20 = Int32.ofNat m) (hm : m ≤ 40000) (i : Int32) (hi : ¬ (0 ≤ i.toInt ∧ i.toInt < m)) : ∃ w', fD_byteAt 37 i w = some (.inl (some (.int 0)), w') ∧ qM w' (upd z 0 1) g ∧ qI 37 66 w w' := by
  unfold fD_byteAt fD_byteAt_22
  rw [h.I 20 rfl, Option.bind_some, hz, q_in, q_call, q_kI, q_64, q_sub1 (by rw [q_ofi (by omega)]; omega), q_ofi (by omega), q_e0, if_neg (show ¬ (0 ≤ i.toInt ∧ i.toInt ≤ (m : Int) - 1) by omega), if_pos rfl]
  obtain ⟨w1, g1, q1, F1⟩ := h.put 0 1 (by omega) rfl
  rw [g1, Option.bind_some, q1.I 0 rfl, Option.bind_some, show upd z 0 1 0 = 1 from rfl, if_neg (by decide)]
  exact ⟨w1, rfl, q1, F1⟩
theorem qW_pass1 (ho : qCo w rd) (h9 : w.1[9]? = some (.inr (9, [.ref 10]))) (hb : qB w 10 r 20000 n L f) (i k : Int32) (hi : ¬ (0 ≤ i.toInt ∧ i.toInt < L.length)) : ∃ w', fW_pass 0 i k w = some (.inr "java/lang/IndexOutOfBoundsException", w') ∧ qT w w' := by
  have hm := hb.2.2.2.1
  unfold fW_pass fW_pass_18
  rcases q_nin (by omega) hi with h | h
  · rw [if_pos h]; exact q_throw _ _
  · rw [q_getR (k := 3) ho rfl, Option.bind_some, q_getR (k := 0) h9 rfl, Option.bind_some, q_getI (k := 2) hb.o rfl, Option.bind_some, if_neg h]
    split <;> exact q_throw _ _
theorem qM.pass1 (h : qM w z g) (m : Nat) (hz : z 20 = Int32.ofNat m) (hm : m ≤ 40000) (i k : Int32) (hi : ¬ (0 ≤ i.toInt ∧ i.toInt < m)) : ∃ w', fD_pass 37 i k w = some (.inl (some (.int 0)), w') ∧ qM w' (upd z 0 1) g ∧ qI 37 66 w w' := by
  obtain ⟨w1, g1, q1, F1⟩ := h.put 0 1 (by omega) rfl
  have key : ∀ s0, fD_pass_20 37 i k s0 w = some (.inl (some (.int 0)), w1) := fun s0 => by
    unfold fD_pass_20 fD_pass_67
    rw [h.I 20 rfl, Option.bind_some, hz, q_in, q_call, q_kI, q_64, q_sub1 (by rw [q_ofi (by omega)]; omega), q_ofi (by omega), q_e0, if_neg (show ¬ (0 ≤ i.toInt ∧ i.toInt ≤ (m : Int) - 1) by omega), if_neg (show ¬ ¬ (0 : Int32) = 0 from not_not_intro rfl), g1, Option.bind_some, q1.I 0 rfl, Option.bind_some, show upd z 0 1 0 = 1 from rfl, if_neg (by decide)]
  unfold fD_pass
  rw [h.I 20 rfl, Option.bind_some, key, Option.bind_some, key]
  split <;> exact ⟨w1, rfl, q1, F1⟩
theorem qW_alter1 (ho : qCo w rd) (hb : qB w 12 r 20000 n L f) (i k : Int32) (hi : ¬ (0 ≤ i.toInt ∧ i.toInt < L.length)) : ∃ w', fW_alter 0 i k w = some (.inr "java/lang/IndexOutOfBoundsException", w') ∧ qT w w' := by
  have hm := hb.2.2.2.1
  unfold fW_alter fW_alter_15
  rcases q_nin (by omega) hi with h | h
  · rw [if_pos h]; exact q_throw _ _
  · rw [q_getR (k := 4) ho rfl, Option.bind_some, q_getI (k := 2) hb.o rfl, Option.bind_some, if_neg h]
    split <;> exact q_throw _ _
theorem qM.alter1 (h : qM w z g) (m : Nat) (hz : z 22 = Int32.ofNat m) (hm : m ≤ 20000) (i k : Int32) (hi : ¬ (0 ≤ i.toInt ∧ i.toInt < m)) : ∃ w', fD_alter 37 i k w = some (.inl (some (.int 0)), w') ∧ qM w' (upd z 0 1) g ∧ qI 37 66 w w' := by
  unfold fD_alter fD_alter_38
  rw [h.I 22 rfl, Option.bind_some, hz, q_in, q_call, q_kI, q_64, q_sub1 (by rw [q_ofi (by omega)]; omega), q_ofi (by omega), q_e0, if_neg (show ¬ (0 ≤ i.toInt ∧ i.toInt ≤ (m : Int) - 1) by omega), if_neg (show ¬ ¬ (0 : Int32) = 0 from not_not_intro rfl)]
  obtain ⟨w1, g1, q1, F1⟩ := h.put 0 1 (by omega) rfl
  rw [g1, Option.bind_some, q1.I 0 rfl, Option.bind_some, show upd z 0 1 0 = 1 from rfl, if_neg (by decide)]
  exact ⟨w1, rfl, q1, F1⟩
/-- nothing read -/
theorem qW_at1 (ho : qCo w 0) (a b c : Int32) : ∃ w', fW_at 0 a b c w = some (.inr "java/lang/IllegalStateException", w') ∧ qT w w' := by
  unfold fW_at
  rw [q_getI (k := 10) ho rfl, Option.bind_some, if_neg (show ¬ ¬ (0 : Int32) = 0 from not_not_intro rfl)]
  exact q_throw _ _
theorem qW_part1 (ho : qCo w 0) (a b : Int32) : ∃ w', fW_part 0 a b w = some (.inr "java/lang/IllegalStateException", w') ∧ qT w w' := by
  unfold fW_part
  rw [q_getI (k := 10) ho rfl, Option.bind_some, if_neg (show ¬ ¬ (0 : Int32) = 0 from not_not_intro rfl)]
  exact q_throw _ _
theorem qW_partByte1 (ho : qCo w 0) (a b : Int32) : ∃ w', fW_partByte 0 a b w = some (.inr "java/lang/IllegalStateException", w') ∧ qT w w' := by
  unfold fW_partByte
  rw [q_getI (k := 10) ho rfl, Option.bind_some, if_neg (show ¬ ¬ (0 : Int32) = 0 from not_not_intro rfl)]
  exact q_throw _ _
theorem qM.part1 (h : qM w z g) (hz : z 25 = 0) (a b : Int32) : ∃ w', fD_part 37 a b w = some (.inl (some (.int 0)), w') ∧ qM w' (upd z 0 1) g ∧ qI 37 66 w w' := by
  unfold fD_part fD_part_33
  obtain ⟨w1, g1, q1, F1⟩ := h.put 0 1 (by omega) rfl
  rw [h.I 25 rfl, Option.bind_some, hz, if_neg (show ¬ ¬ (0 : Int32) = 0 from not_not_intro rfl), g1, Option.bind_some, q1.I 0 rfl, Option.bind_some, show upd z 0 1 0 = 1 from rfl, if_neg (by decide)]
  exact ⟨w1, rfl, q1, F1⟩
theorem qM.partByte1 (h : qM w z g) (hz : z 25 = 0) (a b : Int32) : ∃ w', fD_partByte 37 a b w = some (.inl (some (.int 0)), w') ∧ qM w' (upd z 0 1) g ∧ qI 37 66 w w' := by
  unfold fD_partByte fD_partByte_51
  obtain ⟨w1, g1, q1, F1⟩ := h.put 0 1 (by omega) rfl
  rw [h.I 25 rfl, Option.bind_some, hz, if_neg (show ¬ ¬ (0 : Int32) = 0 from not_not_intro rfl), g1, Option.bind_some, q1.I 0 rfl, Option.bind_some, show upd z 0 1 0 = 1 from rfl, if_neg (by decide)]
  exact ⟨w1, rfl, q1, F1⟩
theorem qM.at1 (h : qM w z g) (hz : z 25 = 0) (a b c : Int32) : ∃ w', fD_at 37 a b c w = some (.inl (some (.int 0)), w') ∧ qM w' (upd z 0 1) g ∧ qI 37 66 w w' := by
  obtain ⟨w1, g1, q1, F1⟩ := h.put 0 1 (by omega) rfl
  have k0 : fD_at_121 37 a b c 0 w = some (.inl (some (.int 0)), w1) := by
    unfold fD_at_121 fD_at_145
    rw [h.I 25 rfl, Option.bind_some, hz, if_neg (show ¬ ¬ (0 : Int32) = 0 from not_not_intro rfl), g1, Option.bind_some, q1.I 0 rfl, Option.bind_some, show upd z 0 1 0 = 1 from rfl, if_neg (by decide)]
  have k1 : ∀ x y, fD_at_49 37 a b c x y w = some (.inl (some (.int 0)), w1) := fun x y => by
    unfold fD_at_49
    rw [h.I 25 rfl, Option.bind_some, hz, if_pos rfl, k0]
  have k2 : ∀ x, fD_at_26 37 a b c x w = some (.inl (some (.int 0)), w1) := fun x => by
    unfold fD_at_26
    rw [k1, k1]
    (repeat' split) <;> rfl
  refine ⟨w1, ?_, q1, F1⟩
  unfold fD_at fD_at_11
  rw [k2, k2]
  (repeat' split) <;> rfl
theorem qW_unknown1 (ho : qCo w rd) {c0 c1 c2 : Int32} (h22 : w.1[22]? = some (.inr (1, [.ref 14, .ref 23, .ref 25, .int c0, .int c1, .int c2]))) {f : Nat → Int32} (hn : qN w 23 r n L f) (i k : Int32) (hi : ¬ (0 ≤ i.toInt ∧ i.toInt < L.length)) : ∃ w', fW_unknown 0 i k w = some (.inr "java/lang/IndexOutOfBoundsException", w') ∧ qT w w' := by
  have hL : L.length ≤ 4096 := by
    have := hn.2.2.1
    have := hn.2.2.2.1
    omega
  unfold fW_unknown fW_unknown_18
  rcases q_nin (by omega) hi with h | h
  · rw [if_pos h]; exact q_throw _ _
  · rw [q_getR (k := 7) ho rfl, Option.bind_some, q_getR (k := 1) h22 rfl, Option.bind_some, q_getI (k := 1) hn.1 rfl, Option.bind_some, if_neg h]
    split <;> exact q_throw _ _
theorem qM.unknown1 (h : qM w z g) (m : Nat) (hz : z 27 = Int32.ofNat m) (hm : m ≤ 2600) (i k : Int32) (hi : ¬ (0 ≤ i.toInt ∧ i.toInt < m)) : ∃ w', fD_unknown 37 i k w = some (.inl (some (.int 0)), w') ∧ qM w' (upd z 0 1) g ∧ qI 37 66 w w' := by
  unfold fD_unknown fD_unknown_42
  rw [h.I 27 rfl, Option.bind_some, hz, q_in, q_call, q_kI, q_64, q_sub1 (by rw [q_ofi (by omega)]; omega), q_ofi (by omega), q_e0, if_neg (show ¬ (0 ≤ i.toInt ∧ i.toInt ≤ (m : Int) - 1) by omega), if_pos rfl]
  obtain ⟨w1, g1, q1, F1⟩ := h.put 0 1 (by omega) rfl
  rw [g1, Option.bind_some, q1.I 0 rfl, Option.bind_some, show upd z 0 1 0 = 1 from rfl, if_neg (by decide)]
  exact ⟨w1, rfl, q1, F1⟩
end
/-- numbers in two and in four bytes -/
def b2 (v : Int32) : List Int32 := [p_ushr v 8 &&& 255, p_ushr v 0 &&& 255]
def b4 (v : Int32) : List Int32 := [p_ushr v 24 &&& 255, p_ushr v 16 &&& 255, p_ushr v 8 &&& 255, p_ushr v 0 &&& 255]
/-- the class writing: since w0 only out has changed, which holds L -/
def qV (w0 : PW) (r0 n0 : Nat) (tw th : Int32) (sz dp nm sy sp : Nat → Int32) (w : PW) (L : List Int32) : Prop := qBS 10 w0 r0 n0 20000 w L ∧ w0.1[9]? = some (.inr (9, [.ref 10])) ∧ qS w0 1 tw th sz dp nm sy sp ∧ (r0 = 11 ∨ 67 ≤ r0)
section
variable {w0 w : PW} {r0 n0 : Nat} {tw th : Int32} {sz dp nm sy sp : Nat → Int32} {L : List Int32}
theorem qV.keep (h : qV w0 r0 n0 tw th sz dp nm sy sp w L) {x : Nat} (h1 : x ≠ 10) (h2 : x ≠ r0) (hx : x < w0.1.length) : w.1[x]? = w0.1[x]? := by
  obtain ⟨⟨r, n, f, -, hF, -⟩, -⟩ := h
  exact hF.2.1 x hx (by rintro (e | e); exact h1 e; exact h2 e)
theorem qV.n9 (h : qV w0 r0 n0 tw th sz dp nm sy sp w L) : w.1[9]? = some (.inr (9, [.ref 10])) := by
  have hr := h.2.2.2
  rw [h.keep (by decide) (by omega) (q_lt_len h.2.1), h.2.1]
theorem qV.R (h : qV w0 r0 n0 tw th sz dp nm sy sp w L) : p_getR w 9 9 0 = some 10 := q_getR h.n9 rfl
theorem qV.O (h : qV w0 r0 n0 tw th sz dp nm sy sp w L) : p_obj w 9 9 = some [.ref 10] := q_obj h.n9
theorem qV.B (h : qV w0 r0 n0 tw th sz dp nm sy sp w L) : ∃ fs, p_obj w 10 2 = some fs := h.1.obj
theorem qV.C (h : qV w0 r0 n0 tw th sz dp nm sy sp w L) : p_getI w 10 2 2 = some (Int32.ofNat L.length) := h.1.count
theorem qV.S (h : qV w0 r0 n0 tw th sz dp nm sy sp w L) : qS w 1 tw th sz dp nm sy sp := by
  have hr := h.2.2.2
  have l6 : 6 < w0.1.length := q_lt_len h.2.2.1.2.2.2.2.2.1
  exact h.2.2.1.keep (fun x h1 h2 => h.keep (by omega) (by omega) (by omega))
theorem qV.len (h : qV w0 r0 n0 tw th sz dp nm sy sp w L) : L.length ≤ 20000 := by
  obtain ⟨⟨r, n, f, hb, -⟩, -⟩ := h
  exact hb.2.2.2.1
theorem qV.app (h : qV w0 r0 n0 tw th sz dp nm sy sp w L) (b : Int32) (hL : L.length < 20000) : ∃ w', fBytes_append 10 b w = some (.inl (some (.int 1)), w') ∧ qV w0 r0 n0 tw th sz dp nm sy sp w' (L ++ [b &&& 255]) := by
  obtain ⟨v, w', g1, hv, k1⟩ := h.1.append b
  rw [hv, if_pos hL] at g1
  unfold q_app at k1
  rw [if_pos hL] at k1
  exact ⟨w', g1, k1, h.2⟩
theorem q_app_lt {mo : Nat} {L : List Int32} {b : Int32} (h : L.length < mo) : q_app mo L b = L ++ [b &&& 255] := if_pos h
theorem qV.ap2 (h : qV w0 r0 n0 tw th sz dp nm sy sp w L) (v : Int32) (hL : L.length + 2 ≤ 20000) : ∃ w', fBytes_appendNumber 10 v 2 w = some (.inl none, w') ∧ qV w0 r0 n0 tw th sz dp nm sy sp w' (L ++ b2 v) := by
  obtain ⟨w', g1, k1⟩ := h.1.apn2 v
  refine ⟨w', g1, ?_, h.2⟩
  have : q_apn 20000 v L [8, 0] = L ++ b2 v := by
    simp only [q_apn]
    rw [q_app_lt (L := L) (by omega), q_app_lt (L := L ++ [p_ushr v 8 &&& 255]) (by simp; omega), List.append_assoc]
    rfl
  rw [← this]
  exact k1
theorem qV.ap4 (h : qV w0 r0 n0 tw th sz dp nm sy sp w L) (v : Int32) (hL : L.length + 4 ≤ 20000) : ∃ w', fBytes_appendNumber 10 v 4 w = some (.inl none, w') ∧ qV w0 r0 n0 tw th sz dp nm sy sp w' (L ++ b4 v) := by
  obtain ⟨w', g1, k1⟩ := h.1.apn4 v
  refine ⟨w', g1, ?_, h.2⟩
  have : q_apn 20000 v L [24, 16, 8, 0] = L ++ b4 v := by
    simp only [q_apn]
    rw [q_app_lt (L := L) (by omega), q_app_lt (L := L ++ [p_ushr v 24 &&& 255]) (by simp; omega), q_app_lt (L := L ++ [p_ushr v 24 &&& 255] ++ [p_ushr v 16 &&& 255]) (by simp; omega), q_app_lt (L := L ++ [p_ushr v 24 &&& 255] ++ [p_ushr v 16 &&& 255] ++ [p_ushr v 8 &&& 255]) (by simp; omega), List.append_assoc, List.append_assoc, List.append_assoc]
    rfl
  rw [← this]
  exact k1
theorem b2_len (v : Int32) : (b2 v).length = 2 := rfl
theorem b4_len (v : Int32) : (b4 v).length = 4 := rfl
theorem qV.code (h : qV w0 r0 n0 tw th sz dp nm sy sp w L) (c : Int32) (hL : L.length + 2 ≤ 20000) : ∃ w', fWriter_code 9 c w = some (.inl none, w') ∧ qV w0 r0 n0 tw th sz dp nm sy sp w' (L ++ [255, c &&& 255]) := by
  unfold fWriter_code
  obtain ⟨fs, ho⟩ := h.B
  rw [h.R, Option.bind_some, ho, Option.bind_some]
  obtain ⟨w1, g1, h1⟩ := h.app 255 (by omega)
  obtain ⟨fs1, ho1⟩ := h1.B
  rw [g1, q_call, q_kI, h1.R, Option.bind_some, ho1, Option.bind_some]
  obtain ⟨w2, g2, h2⟩ := h1.app c (by simp; omega)
  rw [g2, q_call, q_kI]
  refine ⟨w2, rfl, ?_⟩
  rw [List.append_assoc] at h2
  exact h2
theorem qV.openBox (h : qV w0 r0 n0 tw th sz dp nm sy sp w L) (k : Int32) (hL : L.length + 8 ≤ 20000) : ∃ w', fWriter_openBox 9 k w = some (.inl (some (.int (Int32.ofNat L.length))), w') ∧ qV w0 r0 n0 tw th sz dp nm sy sp w' (L ++ (b4 0 ++ b4 k)) := by
  unfold fWriter_openBox
  obtain ⟨fs, ho⟩ := h.B
  rw [h.R, Option.bind_some, h.C, Option.bind_some, Option.bind_some, ho, Option.bind_some]
  obtain ⟨w1, g1, h1⟩ := h.ap4 0 (by omega)
  obtain ⟨fs1, ho1⟩ := h1.B
  rw [g1, q_call, q_kV, h1.R, Option.bind_some, ho1, Option.bind_some]
  obtain ⟨w2, g2, h2⟩ := h1.ap4 k (by rw [List.length_append, b4_len]; omega)
  rw [g2, q_call, q_kV]
  rw [List.append_assoc] at h2
  exact ⟨w2, rfl, h2⟩
theorem q_sb {L : List Int32} {i : Int32} {b : Int32} (j : Nat) (hj : j < 2147483648) (hi : i = Int32.ofNat j) : q_setb L i b = L.set j (b &&& 255) := by
  subst hi
  unfold q_setb
  rw [if_neg (show ¬ Int32.ofNat j < 0 from fun h => absurd ((q_lt (m := j) (n := 0) hj (by omega)).mp h) (Nat.not_lt_zero _)), q_tno hj]
theorem q_set4_at {A B : List Int32} {x0 x1 x2 x3 : Int32} (hA : A.length ≤ 30000) (v : Int32) : q_set4 (A ++ (x0 :: x1 :: x2 :: x3 :: B)) (Int32.ofNat A.length) v = A ++ (b4 v ++ B) := by
  have e : ∀ k : Nat, Int32.ofNat A.length + Int32.ofNat k = Int32.ofNat (A.length + k) := fun k => (Int32.ofNat_add _ _).symm
  unfold q_set4
  rw [q_sb (A.length + 0) (by omega) (show Int32.ofNat A.length + 0 = _ from e 0), q_sb (A.length + 1) (by omega) (show Int32.ofNat A.length + 1 = _ from e 1), q_sb (A.length + 2) (by omega) (show Int32.ofNat A.length + 2 = _ from e 2), q_sb (A.length + 3) (by omega) (show Int32.ofNat A.length + 3 = _ from e 3)]
  rw [List.set_append_right _ _ (by omega), List.set_append_right _ _ (by omega), List.set_append_right _ _ (by omega), List.set_append_right _ _ (by omega)]
  simp only [Nat.add_sub_cancel_left]
  rfl
theorem qV.closeBox {A : List Int32} {B : List Int32} {x0 x1 x2 x3 : Int32} (h : qV w0 r0 n0 tw th sz dp nm sy sp w (A ++ (x0 :: x1 :: x2 :: x3 :: B))) : ∃ w', fWriter_closeBox 9 (Int32.ofNat A.length) w = some (.inl none, w') ∧ qV w0 r0 n0 tw th sz dp nm sy sp w' (A ++ (b4 (Int32.ofNat (4 + B.length)) ++ B)) := by
  have hl := h.len
  have hl2 : (A ++ (x0 :: x1 :: x2 :: x3 :: B)).length = A.length + (4 + B.length) := by simp; omega
  unfold fWriter_closeBox
  obtain ⟨fs, ho⟩ := h.B
  rw [h.R, Option.bind_some, Option.bind_some, h.C, Option.bind_some, ho, Option.bind_some]
  obtain ⟨w1, g1, k1⟩ := h.1.put4 (Int32.ofNat A.length) (Int32.ofNat (A ++ (x0 :: x1 :: x2 :: x3 :: B)).length - Int32.ofNat A.length)
  rw [g1, q_call, q_kV]
  have e1 : Int32.ofNat (A ++ (x0 :: x1 :: x2 :: x3 :: B)).length - Int32.ofNat A.length = Int32.ofNat (4 + B.length) := by
    rw [hl2, show Int32.ofNat (A.length + (4 + B.length)) = Int32.ofNat A.length + Int32.ofNat (4 + B.length) from Int32.ofNat_add _ _]
    grind
  rw [e1, q_set4_at (by rw [hl2] at hl; omega)] at k1
  exact ⟨w1, rfl, k1, h.2⟩
/-- a box -/
def m_box (k : Int32) (X : List Int32) : List Int32 := b4 (Int32.ofNat (8 + X.length)) ++ (b4 k ++ X)
theorem m_box_len (k : Int32) (X : List Int32) : (m_box k X).length = 8 + X.length := by
  unfold m_box
  simp [b4_len]
  omega
theorem qV.close {A X : List Int32} {k : Int32} (h : qV w0 r0 n0 tw th sz dp nm sy sp w (A ++ (b4 0 ++ (b4 k ++ X)))) : ∃ w', fWriter_closeBox 9 (Int32.ofNat A.length) w = some (.inl none, w') ∧ qV w0 r0 n0 tw th sz dp nm sy sp w' (A ++ m_box k X) := by
  obtain ⟨w1, g1, k1⟩ := qV.closeBox (A := A) (B := b4 k ++ X) (x0 := p_ushr 0 24 &&& 255) (x1 := p_ushr 0 16 &&& 255) (x2 := p_ushr 0 8 &&& 255) (x3 := p_ushr 0 0 &&& 255) h
  refine ⟨w1, g1, ?_⟩
  unfold m_box
  rw [show 8 + X.length = 4 + (b4 k ++ X).length by simp [b4_len]; omega]
  exact k1
end
section
variable {w0 w : PW} {r0 n0 : Nat} {tw th : Int32} {sz dp nm sy sp : Nat → Int32} {L : List Int32} {e : Value} {P : List Nat}
theorem qB.keep {w w' : PW} {a r mo n : Nat} {L : List Int32} {f : Nat → Int32} (h : qB w a r mo n L f) (h1 : w'.1[a]? = w.1[a]?) (h2 : w'.1[r]? = w.1[r]?) : qB w' a r mo n L f := ⟨by rw [h1, h.1], by rw [h2, h.2.1], h.2.2⟩
theorem qB.b255 {w : PW} {a r mo n : Nat} {L : List Int32} {f : Nat → Int32} (h : qB w a r mo n L f) (i : Nat) (hi : i < L.length) : L[i] &&& 255 = L[i] := by
  rw [← h.2.2.2.2.2.2.2.2 i hi, q_and255]
theorem qV.all2 {a s mo n : Nat} {X : List Int32} {f : Nat → Int32} (hX : qB w0 a s mo n X f) (ha : a ≠ 10 ∧ a ≠ r0) (hs : s ≠ 10 ∧ s ≠ r0) : ∀ (k i F : Nat) (w : PW) (L : List Int32), qV w0 r0 n0 tw th sz dp nm sy sp w L → k < F → i + k = X.length → L.length + k ≤ 20000 → ∃ w', fWriter_appendAll_2 F 9 a (Int32.ofNat i) w = some (.inl none, w') ∧ qV w0 r0 n0 tw th sz dp nm sy sp w' (L ++ X.drop i)
  | 0, i, F + 1, w, L, h, _, hi, hL => by
    have hb : qB w a s mo n X f := hX.keep (h.keep ha.1 ha.2 (q_lt_len hX.o)) (h.keep hs.1 hs.2 (q_lt_len hX.d))
    rw [fWriter_appendAll_2, q_getI (k := 2) hb.o rfl, Option.bind_some, if_pos (by rw [show i = X.length by omega]; exact q_lei.mpr (Int.le_refl _)), List.drop_eq_nil_of_le (by omega), List.append_nil]
    exact ⟨w, rfl, h⟩
  | k + 1, i, F + 1, w, L, h, hF, hi, hL => by
    have hb : qB w a s mo n X f := hX.keep (h.keep ha.1 ha.2 (q_lt_len hX.o)) (h.keep hs.1 hs.2 (q_lt_len hX.d))
    have hm : X.length ≤ 20000 := by
      have h1 := hb.2.2.2.1
      have h2 := hb.2.2.2.2.1
      omega
    obtain ⟨fs, ho⟩ := h.B
    rw [fWriter_appendAll_2, q_getI (k := 2) hb.o rfl, Option.bind_some, if_neg (fun hh => by have := (q_le (m := X.length) (n := i) (by omega) (by omega)).mp hh; omega), h.R, Option.bind_some, q_obj hb.o, Option.bind_some, hb.get, q_call, q_kI, ho, Option.bind_some]
    have gi : (if Int32.ofNat i < 0 then (-1 : Int32) else X[(Int32.ofNat i).toNatClampNeg]?.getD (-1)) = X[i] := by
      rw [if_neg (show ¬ Int32.ofNat i < 0 from fun h => absurd ((q_lt (m := i) (n := 0) (by omega) (by omega)).mp h) (Nat.not_lt_zero _)), q_tno (by omega), List.getElem?_eq_getElem (by omega)]
      rfl
    rw [gi]
    obtain ⟨w1, g1, h1⟩ := h.app X[i] (by omega)
    rw [g1, q_call, q_kI, q_let, show Int32.ofNat i + 1 = Int32.ofNat (i + 1) from (Int32.ofNat_add i 1).symm]
    rw [hX.b255 i (by omega)] at h1
    obtain ⟨w2, g2, h2⟩ := qV.all2 hX ha hs k (i + 1) F w1 _ h1 (by omega) (by omega) (by simp; omega)
    refine ⟨w2, g2, ?_⟩
    rw [List.append_assoc] at h2
    rw [List.drop_eq_getElem_cons (by omega)]
    exact h2
theorem qV.appendAll {a s mo n : Nat} {X : List Int32} {f : Nat → Int32} (h : qV w0 r0 n0 tw th sz dp nm sy sp w L) (hX : qB w0 a s mo n X f) (ha : a ≠ 10 ∧ a ≠ r0) (hs : s ≠ 10 ∧ s ≠ r0) (hL : L.length + X.length ≤ 20000) : ∃ w', fWriter_appendAll 9 a w = some (.inl none, w') ∧ qV w0 r0 n0 tw th sz dp nm sy sp w' (L ++ X) := by
  have := qV.all2 hX ha hs X.length 0 FUEL w L h (by show _ < 1000000; omega) (by omega) hL
  rw [List.drop_zero] at this
  exact this
/-- the made boxes at the world w0 -/
def qBx (w0 : PW) (r0 : Nat) (P : List Nat) (bi bk : Nat → Int32) (ba br bn : Nat → Nat) (bL : Nat → List Int32) (bf : Nat → Nat → Int32) : Prop :=
  ∀ k x : Nat, P[k]? = some x → w0.1[x]? = some (.inr (4, [.int (bi k), .int (bk k), .ref (ba k)])) ∧ qB w0 (ba k) (br k) 40 (bn k) (bL k) (bf k) ∧ (x ≠ 10 ∧ x ≠ r0) ∧ (ba k ≠ 10 ∧ ba k ≠ r0) ∧ (br k ≠ 10 ∧ br k ≠ r0)
def m_mb (bi bk : Nat → Int32) (bL : Nat → List Int32) (ins : Int32) : Nat → Nat → List Int32
  | 0, _ => []
  | n + 1, i => (if bi i = ins then m_box (bk i) (bL i) else []) ++ m_mb bi bk bL ins n (i + 1)
theorem m_mb_len {bi bk : Nat → Int32} {bL : Nat → List Int32} (hb : ∀ k, (bL k).length ≤ 40) (ins : Int32) : ∀ n i, (m_mb bi bk bL ins n i).length ≤ 48 * n
  | 0, _ => Nat.le_refl _
  | n + 1, i => by
    rw [m_mb, List.length_append]
    have := m_mb_len hb (bi := bi) (bk := bk) ins n (i + 1)
    split
    · rw [m_box_len]
      have := hb i
      omega
    · simp; omega
theorem qV.list {a : Nat} (h : qV w0 r0 n0 tw th sz dp nm sy sp w L) (hl : qL w0 a e P) (ha : a ≠ 10 ∧ a ≠ r0) (he : ∀ y : Nat, .ref y = e → y ≠ 10 ∧ y ≠ r0) (hP : ∀ x ∈ P, x ≠ 10 ∧ x ≠ r0) : qL w a e P := by
  have le : ∀ y : Nat, .ref y = e → y < w0.1.length := fun y hy => by
    rcases hl.choose_spec.2.2.2 with ⟨x1, -⟩ | ⟨r, n, f, x1, hr, -⟩
    · rw [x1] at hy; cases hy
    · rw [x1] at hy
      cases hy
      exact q_lt_len hr
  exact hl.keep (fun y hy => by
    rcases hy with k | k | k
    · rw [k]
      exact h.keep ha.1 ha.2 (q_lt_len hl.choose_spec.1)
    · exact h.keep (he y k).1 (he y k).2 (le y k)
    · exact h.keep (hP y k).1 (hP y k).2 (q_lt_len (p_elt_some (hl.choose_spec.2.2.1 y k)).choose_spec.choose_spec.1))
theorem qV.mb2 {bi bk : Nat → Int32} {ba br bn : Nat → Nat} {bL : Nat → List Int32} {bf : Nat → Nat → Int32} (hl : qL w0 8 e P) (hr8 : 8 ≠ r0) (he : ∀ y : Nat, .ref y = e → y ≠ 10 ∧ y ≠ r0) (hB : qBx w0 r0 P bi bk ba br bn bL bf) (ins : Int32) : ∀ (k i F : Nat) (w : PW) (L : List Int32), qV w0 r0 n0 tw th sz dp nm sy sp w L → k < F → i + k = P.length → L.length + 48 * k ≤ 20000 → ∃ w', fWriter_madeBoxes_2 F 9 8 ins (Int32.ofNat i) w = some (.inl none, w') ∧ qV w0 r0 n0 tw th sz dp nm sy sp w' (L ++ m_mb bi bk bL ins k i)
  | 0, i, F + 1, w, L, h, _, hi, hL => by
    have hlw : qL w 8 e P := h.list hl ⟨by decide, hr8⟩ he (fun x hx => by
      obtain ⟨k, hk⟩ := List.getElem?_of_mem hx
      exact (hB k x hk).2.2.1)
    obtain ⟨fs, hlo⟩ := hlw.obj
    rw [fWriter_madeBoxes_2, hlo, Option.bind_some, hlw.size, q_call, q_kI, if_pos (by rw [show i = P.length by omega]; exact q_lei.mpr (Int.le_refl _)), m_mb, List.append_nil]
    exact ⟨w, rfl, h⟩
  | k + 1, i, F + 1, w, L, h, hF, hi, hL => by
    have hlw : qL w 8 e P := h.list hl ⟨by decide, hr8⟩ he (fun x hx => by
      obtain ⟨k, hk⟩ := List.getElem?_of_mem hx
      exact (hB k x hk).2.2.1)
    have h40 : P.length ≤ 40 := hl.choose_spec.2.1
    obtain ⟨fs, hlo⟩ := hlw.obj
    have hx : P[i]? = some P[i] := List.getElem?_eq_getElem (by omega)
    obtain ⟨o1, b1, c1, c2, c3⟩ := hB i _ hx
    have keep : ∀ (w' : PW) (L' : List Int32), qV w0 r0 n0 tw th sz dp nm sy sp w' L' → w'.1[P[i]]? = some (.inr (4, [.int (bi i), .int (bk i), .ref (ba i)])) := fun w' L' h' => by rw [h'.keep c1.1 c1.2 (q_lt_len o1), o1]
    have e1 : Int32.ofNat i + 1 = Int32.ofNat (i + 1) := (Int32.ofNat_add i 1).symm
    rw [fWriter_madeBoxes_2, hlo, Option.bind_some, hlw.size, q_call, q_kI, if_neg (fun hh => by have := (q_le (m := P.length) (n := i) (by omega) (by omega)).mp hh; omega), hlo, Option.bind_some, hlw.get i _ hx, q_call, q_kR, q_obj (keep w L h), Option.bind_some, q_getI (k := 0) (keep w L h) rfl, Option.bind_some, m_mb]
    simp only [q_let, e1]
    by_cases hbi : bi i = ins
    · rw [if_neg (not_not_intro hbi), if_pos hbi, q_getI (k := 1) (keep w L h) rfl, Option.bind_some, h.O, Option.bind_some]
      have hlen : (bL i).length ≤ 40 := b1.2.2.2.1
      obtain ⟨w1, g1, h1⟩ := h.openBox (bk i) (by omega)
      rw [g1, q_call, q_kI, q_getR (k := 2) (keep w1 _ h1) rfl, Option.bind_some, h1.O, Option.bind_some]
      obtain ⟨w2, g2, h2⟩ := h1.appendAll b1 c2 c3 (by simp [b4_len]; omega)
      rw [g2, q_call, q_kV, h2.O, Option.bind_some]
      rw [List.append_assoc, List.append_assoc] at h2
      obtain ⟨w3, g3, h3⟩ := h2.close
      rw [g3, q_call, q_kV]
      obtain ⟨w4, g4, h4⟩ := qV.mb2 hl hr8 he hB ins k (i + 1) F w3 _ h3 (by omega) (by omega) (by rw [List.length_append, m_box_len]; omega)
      rw [List.append_assoc] at h4
      exact ⟨w4, g4, h4⟩
    · rw [if_pos hbi, if_neg hbi, List.nil_append]
      exact qV.mb2 hl hr8 he hB ins k (i + 1) F w L h (by omega) (by omega) (by omega)
/-- the head's numbers -/
def m_deep (dp : Nat → Int32) : Nat → Nat → Int32 → Int32
  | 0, _, d => d
  | n + 1, i, d => m_deep dp n (i + 1) (p_max d (dp i))
def m_ihdr (sz dp : Nat → Int32) : List Int32 := b4 (sz 1) ++ (b4 (sz 0) ++ (b2 (sz 2) ++ ([(m_deep dp (sz 2).toInt.toNat 0 1 - 1) &&& 255] ++ ([7] ++ b2 0))))
theorem m_ihdr_len (sz dp : Nat → Int32) : (m_ihdr sz dp).length = 14 := rfl
theorem q_valD (c : Nat) : q_val sz dp nm sy sp 3 (-1) (Int32.ofNat c) = dp (p_max 0 (Int32.ofNat c)).toNatClampNeg := rfl
theorem q_max0 {c : Nat} (hc : c < 2147483648) : p_max 0 (Int32.ofNat c) = Int32.ofNat c := by
  unfold p_max
  by_cases h : 0 < Int32.ofNat c
  · rw [if_pos h]
  · rw [if_neg h]
    have : ¬ 0 < c := fun k => h ((q_lt (m := 0) (n := c) (by omega) hc).mpr k)
    rw [show c = 0 by omega]
    rfl
theorem qV.pic4 (hn1 : 1 ≤ (sz 2).toInt) (hn4 : (sz 2).toInt ≤ 4) : ∀ (k i F : Nat) (d : Int32) (w : PW) (L : List Int32), qV w0 r0 n0 tw th sz dp nm sy sp w L → k < F → (i + k : Int) = (sz 2).toInt → L.length + 22 ≤ 20000 → ∃ w', fWriter_pictureHeader_4 F 9 1 d (Int32.ofNat i) w = some (.inl none, w') ∧ qV w0 r0 n0 tw th sz dp nm sy sp w' (L ++ m_box 1768449138 (b4 (sz 1) ++ (b4 (sz 0) ++ (b2 (sz 2) ++ ([(m_deep dp k i d - 1) &&& 255] ++ ([7] ++ b2 0))))))
  | 0, i, F + 1, d, w, L, h, _, hi, hL => by
    have s2 := h.S.size 2 (by decide) (by decide)
    rw [fWriter_pictureHeader_4, q_getR (k := 0) h.S.1 rfl, Option.bind_some, s2, Option.bind_some, if_pos (by rw [q_lei, q_ofi (by omega)]; show (sz 2).toInt ≤ _; omega), h.O, Option.bind_some, m_deep]
    obtain ⟨w1, g1, h1⟩ := h.openBox 1768449138 (by omega)
    obtain ⟨f1, o1⟩ := h1.B
    rw [g1, q_call, q_kI, h1.R, Option.bind_some, q_getR (k := 0) h1.S.1 rfl, Option.bind_some, h1.S.size 1 (by decide) (by decide), Option.bind_some, o1, Option.bind_some]
    obtain ⟨w2, g2, h2⟩ := h1.ap4 (sz 1) (by simp [b4_len]; omega)
    obtain ⟨f2, o2⟩ := h2.B
    rw [show sz (1 : Int32).toNatClampNeg = sz 1 from rfl, g2, q_call, q_kV, h2.R, Option.bind_some, q_getR (k := 0) h2.S.1 rfl, Option.bind_some, h2.S.size 0 (by decide) (by decide), Option.bind_some, o2, Option.bind_some]
    obtain ⟨w3, g3, h3⟩ := h2.ap4 (sz 0) (by simp [b4_len]; omega)
    obtain ⟨f3, o3⟩ := h3.B
    rw [show sz (0 : Int32).toNatClampNeg = sz 0 from rfl, g3, q_call, q_kV, h3.R, Option.bind_some, q_getR (k := 0) h3.S.1 rfl, Option.bind_some, h3.S.size 2 (by decide) (by decide), Option.bind_some, o3, Option.bind_some]
    obtain ⟨w4, g4, h4⟩ := h3.ap2 (sz 2) (by simp [b4_len]; omega)
    obtain ⟨f4, o4⟩ := h4.B
    rw [show sz (2 : Int32).toNatClampNeg = sz 2 from rfl, g4, q_call, q_kV, h4.R, Option.bind_some, o4, Option.bind_some]
    obtain ⟨w5, g5, h5⟩ := h4.app (d - 1) (by simp [b4_len, b2_len]; omega)
    obtain ⟨f5, o5⟩ := h5.B
    rw [g5, q_call, q_kI, h5.R, Option.bind_some, o5, Option.bind_some]
    obtain ⟨w6, g6, h6⟩ := h5.app 7 (by simp [b4_len, b2_len]; omega)
    obtain ⟨f6, o6⟩ := h6.B
    rw [g6, q_call, q_kI, h6.R, Option.bind_some, o6, Option.bind_some]
    obtain ⟨w7, g7, h7⟩ := h6.ap2 0 (by simp [b4_len, b2_len]; omega)
    rw [g7, q_call, q_kV, h7.O, Option.bind_some]
    simp only [List.append_assoc] at h7
    obtain ⟨w8, g8, h8⟩ := h7.close
    rw [g8, q_call, q_kV]
    exact ⟨w8, rfl, h8⟩
  | k + 1, i, F + 1, d, w, L, h, hF, hi, hL => by
    have s2 := h.S.size 2 (by decide) (by decide)
    obtain ⟨fs, hso⟩ := h.S.obj
    rw [fWriter_pictureHeader_4, q_getR (k := 0) h.S.1 rfl, Option.bind_some, s2, Option.bind_some, if_neg (by rw [q_lei, q_ofi (by omega)]; show ¬ (sz 2).toInt ≤ _; omega), hso, Option.bind_some, h.S.valueOf 3 (-1) (Int32.ofNat i) (by decide) (by decide) (fun _ => (q_lt (m := i) (n := 4) (by omega) (by omega)).mpr (by omega)), q_call, q_kI, q_valD, q_max0 (by omega), q_tno (by omega), m_deep]
    simp only [q_let]
    rw [show Int32.ofNat i + 1 = Int32.ofNat (i + 1) from (Int32.ofNat_add i 1).symm]
    exact qV.pic4 hn1 hn4 k (i + 1) F _ w L h (by omega) (by omega) hL
theorem qV.picture (h : qV w0 r0 n0 tw th sz dp nm sy sp w L) (hn1 : 1 ≤ (sz 2).toInt) (hn4 : (sz 2).toInt ≤ 4) (hL : L.length + 22 ≤ 20000) : ∃ w', fWriter_pictureHeader 9 1 w = some (.inl none, w') ∧ qV w0 r0 n0 tw th sz dp nm sy sp w' (L ++ m_box 1768449138 (m_ihdr sz dp)) :=
  qV.pic4 hn1 hn4 (sz 2).toInt.toNat 0 FUEL 1 w L h (by show _ < 1000000; omega) (by omega) hL
end
section
variable {w0 w : PW} {r0 n0 : Nat} {tw th : Int32} {sz dp nm sy sp : Nat → Int32} {L : List Int32} {e : Value} {P : List Nat}
def m_head (sz dp : Nat → Int32) (B : List Int32) : List Int32 := m_box 1783636000 (b4 218793738) ++ (m_box 1718909296 (b4 1785737760 ++ (b4 0 ++ b4 1785737760)) ++ m_box 1785737832 (m_box 1768449138 (m_ihdr sz dp) ++ B))
theorem m_head_len (sz dp : Nat → Int32) (B : List Int32) : (m_head sz dp B).length = 62 + B.length := by
  unfold m_head
  simp [m_box_len, b4_len, m_ihdr_len]
  omega
theorem qV.headBoxes {bi bk : Nat → Int32} {ba br bn : Nat → Nat} {bL : Nat → List Int32} {bf : Nat → Nat → Int32} (h : qV w0 r0 n0 tw th sz dp nm sy sp w []) (hn1 : 1 ≤ (sz 2).toInt) (hn4 : (sz 2).toInt ≤ 4) (hl : qL w0 8 e P) (hr8 : 8 ≠ r0) (he : ∀ y : Nat, .ref y = e → y ≠ 10 ∧ y ≠ r0) (hB : qBx w0 r0 P bi bk ba br bn bL bf) : ∃ w', fWriter_headBoxes 9 1 8 w = some (.inl none, w') ∧ qV w0 r0 n0 tw th sz dp nm sy sp w' (m_head sz dp (m_mb bi bk bL 1 P.length 0)) := by
  have h40 : P.length ≤ 40 := hl.choose_spec.2.1
  unfold fWriter_headBoxes
  rw [h.O, Option.bind_some]
  obtain ⟨w1, g1, h1⟩ := h.openBox 1783636000 (by simp)
  obtain ⟨f1, o1⟩ := h1.B
  rw [g1, q_call, q_kI, h1.R, Option.bind_some, o1, Option.bind_some]
  obtain ⟨w2, g2, h2⟩ := h1.ap4 218793738 (by simp [b4_len])
  rw [g2, q_call, q_kV, h2.O, Option.bind_some]
  simp only [List.append_assoc] at h2
  obtain ⟨w3, g3, h3⟩ := h2.close
  rw [g3, q_call, q_kV, h3.O, Option.bind_some]
  rw [List.nil_append] at h3
  obtain ⟨w4, g4, h4⟩ := h3.openBox 1718909296 (by simp [m_box_len, b4_len])
  obtain ⟨f4, o4⟩ := h4.B
  rw [g4, q_call, q_kI, h4.R, Option.bind_some, o4, Option.bind_some]
  obtain ⟨w5, g5, h5⟩ := h4.ap4 1785737760 (by simp [m_box_len, b4_len])
  obtain ⟨f5, o5⟩ := h5.B
  rw [g5, q_call, q_kV, h5.R, Option.bind_some, o5, Option.bind_some]
  obtain ⟨w6, g6, h6⟩ := h5.ap4 0 (by simp [m_box_len, b4_len])
  obtain ⟨f6, o6⟩ := h6.B
  rw [g6, q_call, q_kV, h6.R, Option.bind_some, o6, Option.bind_some]
  obtain ⟨w7, g7, h7⟩ := h6.ap4 1785737760 (by simp [m_box_len, b4_len])
  rw [g7, q_call, q_kV, h7.O, Option.bind_some]
  rw [show m_box 1783636000 (b4 218793738) ++ (b4 0 ++ b4 1718909296) ++ b4 1785737760 ++ b4 0 ++ b4 1785737760 = m_box 1783636000 (b4 218793738) ++ (b4 0 ++ (b4 1718909296 ++ (b4 1785737760 ++ (b4 0 ++ b4 1785737760)))) by simp only [List.append_assoc]] at h7
  obtain ⟨w8, g8, h8⟩ := h7.close
  rw [g8, q_call, q_kV, h8.O, Option.bind_some]
  obtain ⟨w9, g9, h9⟩ := h8.openBox 1785737832 (by simp [m_box_len, b4_len])
  rw [g9, q_call, q_kI, h9.O, Option.bind_some]
  obtain ⟨wA, gA, hA⟩ := h9.picture hn1 hn4 (by simp [m_box_len, b4_len])
  rw [gA, q_call, q_kV, hA.O, Option.bind_some]
  obtain ⟨wB, gB, hB2⟩ := qV.mb2 hl hr8 he hB 1 P.length 0 FUEL wA _ hA (by show _ < 1000000; omega) (by omega) (by simp [m_box_len, b4_len, m_ihdr_len]; omega)
  unfold fWriter_madeBoxes
  rw [show fWriter_madeBoxes_2 FUEL 9 8 1 0 wA = _ from gB, q_call, q_kV, hB2.O, Option.bind_some]
  rw [show ∀ A X Y k : List Int32, A ++ (b4 0 ++ k) ++ X ++ Y = A ++ (b4 0 ++ (k ++ (X ++ Y))) from fun A X Y k => by simp only [List.append_assoc]] at hB2
  obtain ⟨wC, gC, hC⟩ := hB2.close
  rw [gC, q_call, q_kV]
  refine ⟨wC, rfl, ?_⟩
  unfold m_head
  rw [← List.append_assoc]
  exact hC
/-- the sizes -/
def m_deps (dp : Nat → Int32) : Nat → Nat → List Int32
  | 0, _ => []
  | n + 1, i => [(dp i - 1) &&& 255] ++ ([1] ++ ([1] ++ m_deps dp n (i + 1)))
theorem m_deps_len (dp : Nat → Int32) : ∀ n i, (m_deps dp n i).length = 3 * n
  | 0, _ => rfl
  | n + 1, i => by
    rw [m_deps]
    simp [m_deps_len dp n (i + 1)]
    omega
theorem qV.siz135 (hn1 : 1 ≤ (sz 2).toInt) (hn4 : (sz 2).toInt ≤ 4) : ∀ (k i F : Nat) (w : PW) (L : List Int32), qV w0 r0 n0 tw th sz dp nm sy sp w L → k < F → (i + k : Int) = (sz 2).toInt → L.length + 3 * k ≤ 20000 → ∃ w', fWriter_sizes_135 F 9 1 (sz 2) (Int32.ofNat i) w = some (.inl none, w') ∧ qV w0 r0 n0 tw th sz dp nm sy sp w' (L ++ m_deps dp k i)
  | 0, i, F + 1, w, L, h, _, hi, hL => by
    rw [fWriter_sizes_135, if_pos (by rw [q_lei, q_ofi (by omega)]; omega), m_deps, List.append_nil]
    exact ⟨w, rfl, h⟩
  | k + 1, i, F + 1, w, L, h, hF, hi, hL => by
    obtain ⟨fs, hso⟩ := h.S.obj
    obtain ⟨f0, o0⟩ := h.B
    rw [fWriter_sizes_135, if_neg (by rw [q_lei, q_ofi (by omega)]; omega), h.R, Option.bind_some, hso, Option.bind_some, h.S.valueOf 3 (-1) (Int32.ofNat i) (by decide) (by decide) (fun _ => (q_lt (m := i) (n := 4) (by omega) (by omega)).mpr (by omega)), q_call, q_kI, q_valD, q_max0 (by omega), q_tno (by omega), o0, Option.bind_some]
    obtain ⟨w1, g1, h1⟩ := h.app (dp i - 1) (by omega)
    obtain ⟨f1, o1⟩ := h1.B
    rw [g1, q_call, q_kI, h1.R, Option.bind_some, o1, Option.bind_some]
    obtain ⟨w2, g2, h2⟩ := h1.app 1 (by simp; omega)
    obtain ⟨f2, o2⟩ := h2.B
    rw [g2, q_call, q_kI, h2.R, Option.bind_some, o2, Option.bind_some]
    obtain ⟨w3, g3, h3⟩ := h2.app 1 (by simp; omega)
    rw [g3, q_call, q_kI, q_let, show Int32.ofNat i + 1 = Int32.ofNat (i + 1) from (Int32.ofNat_add i 1).symm]
    obtain ⟨w4, g4, h4⟩ := qV.siz135 hn1 hn4 k (i + 1) F w3 _ h3 (by omega) (by omega) (by simp; omega)
    refine ⟨w4, g4, ?_⟩
    rw [m_deps]
    simp only [List.append_assoc] at h4
    exact h4
def m_sizes (tw th : Int32) (sz dp : Nat → Int32) : List Int32 := [255, 81] ++ (b2 (38 + 3 * sz 2) ++ (b2 0 ++ (b4 (sz 0) ++ (b4 (sz 1) ++ (b4 0 ++ (b4 0 ++ (b4 tw ++ (b4 th ++ (b4 0 ++ (b4 0 ++ (b2 (sz 2) ++ m_deps dp (sz 2).toInt.toNat 0)))))))))))
theorem m_sizes_len (tw th : Int32) (sz dp : Nat → Int32) : (m_sizes tw th sz dp).length = 40 + 3 * (sz 2).toInt.toNat := by
  unfold m_sizes
  simp [b2_len, b4_len, m_deps_len]
  omega
theorem qV.sizes (h : qV w0 r0 n0 tw th sz dp nm sy sp w L) (hn1 : 1 ≤ (sz 2).toInt) (hn4 : (sz 2).toInt ≤ 4) (hL : L.length + 52 ≤ 20000) : ∃ w', fWriter_sizes 9 1 w = some (.inl none, w') ∧ qV w0 r0 n0 tw th sz dp nm sy sp w' (L ++ m_sizes tw th sz dp) := by
  unfold fWriter_sizes
  rw [q_getR (k := 0) h.S.1 rfl, Option.bind_some, h.S.size 2 (by decide) (by decide), Option.bind_some, show sz (2 : Int32).toNatClampNeg = sz 2 from rfl, h.O, Option.bind_some]
  obtain ⟨w1, g1, h1⟩ := h.code 81 (by omega)
  obtain ⟨f1, o1⟩ := h1.B
  rw [g1, q_call, q_kV, h1.R, Option.bind_some, o1, Option.bind_some]
  obtain ⟨w2, g2, h2⟩ := h1.ap2 (38 + 3 * sz 2) (by simp; omega)
  obtain ⟨f2, o2⟩ := h2.B
  rw [g2, q_call, q_kV, h2.R, Option.bind_some, o2, Option.bind_some]
  obtain ⟨w3, g3, h3⟩ := h2.ap2 0 (by simp [b2_len]; omega)
  obtain ⟨f3, o3⟩ := h3.B
  rw [g3, q_call, q_kV, h3.R, Option.bind_some, q_getR (k := 0) h3.S.1 rfl, Option.bind_some, h3.S.size 0 (by decide) (by decide), Option.bind_some, show sz (0 : Int32).toNatClampNeg = sz 0 from rfl, o3, Option.bind_some]
  obtain ⟨w4, g4, h4⟩ := h3.ap4 (sz 0) (by simp [b2_len]; omega)
  obtain ⟨f4, o4⟩ := h4.B
  rw [g4, q_call, q_kV, h4.R, Option.bind_some, q_getR (k := 0) h4.S.1 rfl, Option.bind_some, h4.S.size 1 (by decide) (by decide), Option.bind_some, show sz (1 : Int32).toNatClampNeg = sz 1 from rfl, o4, Option.bind_some]
  obtain ⟨w5, g5, h5⟩ := h4.ap4 (sz 1) (by simp [b2_len, b4_len]; omega)
  obtain ⟨f5, o5⟩ := h5.B
  rw [g5, q_call, q_kV, h5.R, Option.bind_some, o5, Option.bind_some]
  obtain ⟨w6, g6, h6⟩ := h5.ap4 0 (by simp [b2_len, b4_len]; omega)
  obtain ⟨f6, o6⟩ := h6.B
  rw [g6, q_call, q_kV, h6.R, Option.bind_some, o6, Option.bind_some]
  obtain ⟨w7, g7, h7⟩ := h6.ap4 0 (by simp [b2_len, b4_len]; omega)
  obtain ⟨f7, o7⟩ := h7.B
  rw [g7, q_call, q_kV, h7.R, Option.bind_some, q_getI (k := 5) h7.S.1 rfl, Option.bind_some, o7, Option.bind_some]
  obtain ⟨w8, g8, h8⟩ := h7.ap4 tw (by simp [b2_len, b4_len]; omega)
  obtain ⟨f8, o8⟩ := h8.B
  rw [g8, q_call, q_kV, h8.R, Option.bind_some, q_getI (k := 6) h8.S.1 rfl, Option.bind_some, o8, Option.bind_some]
  obtain ⟨w9, g9, h9⟩ := h8.ap4 th (by simp [b2_len, b4_len]; omega)
  obtain ⟨f9, o9⟩ := h9.B
  rw [g9, q_call, q_kV, h9.R, Option.bind_some, o9, Option.bind_some]
  obtain ⟨wA, gA, hA⟩ := h9.ap4 0 (by simp [b2_len, b4_len]; omega)
  obtain ⟨fA, oA⟩ := hA.B
  rw [gA, q_call, q_kV, hA.R, Option.bind_some, oA, Option.bind_some]
  obtain ⟨wB, gB, hB⟩ := hA.ap4 0 (by simp [b2_len, b4_len]; omega)
  obtain ⟨fB, oB⟩ := hB.B
  rw [gB, q_call, q_kV, hB.R, Option.bind_some, oB, Option.bind_some]
  obtain ⟨wC, gC, hC⟩ := hB.ap2 (sz 2) (by simp [b2_len, b4_len]; omega)
  rw [gC, q_call, q_kV]
  obtain ⟨wD, gD, hD⟩ := qV.siz135 hn1 hn4 (sz 2).toInt.toNat 0 FUEL wC _ hC (by show _ < 1000000; omega) (by omega) (by simp only [List.length_append, b2_len, b4_len, List.length_cons, List.length_nil]; omega)
  refine ⟨wD, gD, ?_⟩
  unfold m_sizes
  simp only [List.append_assoc] at hD
  exact hD
/-- segments -/
def m_v (nm sy sp : Nat → Int32) (what t c : Int32) : Int32 := nm (q_fc (if 9 ≤ what then sp else sy) t (if what = 4 ∨ what = 5 then -1 else c) * 7 + what - 4).toNatClampNeg
theorem m_v_val (what t c : Int32) (h : 4 ≤ what) : q_val sz dp nm sy sp what t c = m_v nm sy sp what t c := by
  unfold q_val m_v
  rw [if_neg (by grind), if_neg (by grind)]
def m_sty88 (nm sy sp : Nat → Int32) (t c : Int32) : List Int32 := [0] ++ ([m_v nm sy sp 6 t c &&& 255] ++ ([(m_v nm sy sp 7 t c - 2) &&& 255] ++ ([(m_v nm sy sp 7 t c - 2) &&& 255] ++ ([0] ++ [m_v nm sy sp 8 t c &&& 255]))))
theorem qV.sty88 (h : qV w0 r0 n0 tw th sz dp nm sy sp w L) (t c : Int32) (hL : L.length + 6 ≤ 20000) : ∃ w', fWriter_style_88 9 1 t c w = some (.inl none, w') ∧ qV w0 r0 n0 tw th sz dp nm sy sp w' (L ++ m_sty88 nm sy sp t c) := by
  unfold fWriter_style_88
  have vo : ∀ (w' : PW) (L' : List Int32) (h' : qV w0 r0 n0 tw th sz dp nm sy sp w' L') (what : Int32), 4 ≤ what → what ≤ 10 → fSettings_valueOf 1 what t c w' = some (.inl (some (.int (m_v nm sy sp what t c))), w') := fun w' L' h' what k1 k2 => by
    rw [h'.S.valueOf what t c (by grind) k2 (fun e => by rw [e] at k1; exact absurd k1 (by decide)), m_v_val what t c k1]
  obtain ⟨fs, so⟩ := h.S.obj
  obtain ⟨f0, o0⟩ := h.B
  rw [so, Option.bind_some, vo w L h 7 (by decide) (by decide), q_call, q_kI, q_let, h.R, Option.bind_some, o0, Option.bind_some]
  obtain ⟨w1, g1, h1⟩ := h.app 0 (by omega)
  obtain ⟨s1, so1⟩ := h1.S.obj
  obtain ⟨f1, o1⟩ := h1.B
  rw [g1, q_call, q_kI, h1.R, Option.bind_some, so1, Option.bind_some, vo w1 _ h1 6 (by decide) (by decide), q_call, q_kI, o1, Option.bind_some]
  obtain ⟨w2, g2, h2⟩ := h1.app (m_v nm sy sp 6 t c) (by simp; omega)
  obtain ⟨f2, o2⟩ := h2.B
  rw [g2, q_call, q_kI, h2.R, Option.bind_some, o2, Option.bind_some]
  obtain ⟨w3, g3, h3⟩ := h2.app (m_v nm sy sp 7 t c - 2) (by simp; omega)
  obtain ⟨f3, o3⟩ := h3.B
  rw [g3, q_call, q_kI, h3.R, Option.bind_some, o3, Option.bind_some]
  obtain ⟨w4, g4, h4⟩ := h3.app (m_v nm sy sp 7 t c - 2) (by simp; omega)
  obtain ⟨f4, o4⟩ := h4.B
  rw [g4, q_call, q_kI, h4.R, Option.bind_some, o4, Option.bind_some]
  obtain ⟨w5, g5, h5⟩ := h4.app 0 (by simp; omega)
  obtain ⟨s5, so5⟩ := h5.S.obj
  obtain ⟨f5, o5⟩ := h5.B
  rw [g5, q_call, q_kI, h5.R, Option.bind_some, so5, Option.bind_some, vo w5 _ h5 8 (by decide) (by decide), q_call, q_kI, o5, Option.bind_some]
  obtain ⟨w6, g6, h6⟩ := h5.app (m_v nm sy sp 8 t c) (by simp; omega)
  rw [g6, q_call, q_kI]
  refine ⟨w6, rfl, ?_⟩
  unfold m_sty88
  simp only [List.append_assoc] at h6
  exact h6
def m_style (nm sy sp : Nat → Int32) (t c : Int32) : List Int32 := if c = -1 then [255, 82] ++ (b2 12 ++ ([0] ++ ([m_v nm sy sp 4 t (-1) &&& 255] ++ (b2 (m_v nm sy sp 5 t (-1)) ++ m_sty88 nm sy sp t c)))) else [255, 83] ++ (b2 9 ++ ([c &&& 255] ++ m_sty88 nm sy sp t c))
theorem m_style_len (t c : Int32) : (m_style nm sy sp t c).length ≤ 14 := by
  unfold m_style
  split <;> simp [b2_len, m_sty88]
theorem qV.style (h : qV w0 r0 n0 tw th sz dp nm sy sp w L) (t c : Int32) (hL : L.length + 14 ≤ 20000) : ∃ w', fWriter_style 9 1 t c w = some (.inl none, w') ∧ qV w0 r0 n0 tw th sz dp nm sy sp w' (L ++ m_style nm sy sp t c) := by
  unfold fWriter_style m_style
  have vo : ∀ (w' : PW) (L' : List Int32) (h' : qV w0 r0 n0 tw th sz dp nm sy sp w' L') (what c' : Int32), 4 ≤ what → what ≤ 10 → fSettings_valueOf 1 what t c' w' = some (.inl (some (.int (m_v nm sy sp what t c'))), w') := fun w' L' h' what c' k1 k2 => by
    rw [h'.S.valueOf what t c' (by grind) k2 (fun e => by rw [e] at k1; exact absurd k1 (by decide)), m_v_val what t c' k1]
  by_cases hc : c = -1
  · rw [if_neg (not_not_intro hc), if_pos hc, h.O, Option.bind_some]
    obtain ⟨w1, g1, h1⟩ := h.code 82 (by omega)
    obtain ⟨f1, o1⟩ := h1.B
    rw [g1, q_call, q_kV, h1.R, Option.bind_some, o1, Option.bind_some]
    obtain ⟨w2, g2, h2⟩ := h1.ap2 12 (by simp; omega)
    obtain ⟨f2, o2⟩ := h2.B
    rw [g2, q_call, q_kV, h2.R, Option.bind_some, o2, Option.bind_some]
    obtain ⟨w3, g3, h3⟩ := h2.app 0 (by simp [b2_len]; omega)
    obtain ⟨s3, so3⟩ := h3.S.obj
    obtain ⟨f3, o3⟩ := h3.B
    rw [g3, q_call, q_kI, h3.R, Option.bind_some, so3, Option.bind_some, vo w3 _ h3 4 (-1) (by decide) (by decide), q_call, q_kI, o3, Option.bind_some]
    obtain ⟨w4, g4, h4⟩ := h3.app (m_v nm sy sp 4 t (-1)) (by simp [b2_len]; omega)
    obtain ⟨s4, so4⟩ := h4.S.obj
    obtain ⟨f4, o4⟩ := h4.B
    rw [g4, q_call, q_kI, h4.R, Option.bind_some, so4, Option.bind_some, vo w4 _ h4 5 (-1) (by decide) (by decide), q_call, q_kI, o4, Option.bind_some]
    obtain ⟨w5, g5, h5⟩ := h4.ap2 (m_v nm sy sp 5 t (-1)) (by simp [b2_len]; omega)
    rw [g5, q_call, q_kV]
    obtain ⟨w6, g6, h6⟩ := h5.sty88 t c (by simp [b2_len]; omega)
    refine ⟨w6, g6, ?_⟩
    simp only [List.append_assoc] at h6
    exact h6
  · rw [if_pos hc, if_neg hc, h.O, Option.bind_some]
    obtain ⟨w1, g1, h1⟩ := h.code 83 (by omega)
    obtain ⟨f1, o1⟩ := h1.B
    rw [g1, q_call, q_kV, h1.R, Option.bind_some, o1, Option.bind_some]
    obtain ⟨w2, g2, h2⟩ := h1.ap2 9 (by simp; omega)
    obtain ⟨f2, o2⟩ := h2.B
    rw [g2, q_call, q_kV, h2.R, Option.bind_some, o2, Option.bind_some]
    obtain ⟨w3, g3, h3⟩ := h2.app c (by simp [b2_len]; omega)
    rw [g3, q_call, q_kI]
    obtain ⟨w6, g6, h6⟩ := h3.sty88 t c (by simp [b2_len]; omega)
    refine ⟨w6, g6, ?_⟩
    simp only [List.append_assoc] at h6
    exact h6
def m_stp48 (nm sy sp : Nat → Int32) (t c : Int32) : List Int32 := [(32 * m_v nm sy sp 10 t c + 1) &&& 255] ++ b2 (2048 * m_v nm sy sp 9 t c)
theorem qV.stp48 (h : qV w0 r0 n0 tw th sz dp nm sy sp w L) (t c : Int32) (hL : L.length + 3 ≤ 20000) : ∃ w', fWriter_step_48 9 1 t c w = some (.inl none, w') ∧ qV w0 r0 n0 tw th sz dp nm sy sp w' (L ++ m_stp48 nm sy sp t c) := by
  unfold fWriter_step_48
  have vo : ∀ (w' : PW) (L' : List Int32) (h' : qV w0 r0 n0 tw th sz dp nm sy sp w' L') (what : Int32), 4 ≤ what → what ≤ 10 → fSettings_valueOf 1 what t c w' = some (.inl (some (.int (m_v nm sy sp what t c))), w') := fun w' L' h' what k1 k2 => by
    rw [h'.S.valueOf what t c (by grind) k2 (fun e => by rw [e] at k1; exact absurd k1 (by decide)), m_v_val what t c k1]
  obtain ⟨fs, so⟩ := h.S.obj
  obtain ⟨f0, o0⟩ := h.B
  rw [h.R, Option.bind_some, so, Option.bind_some, vo w L h 10 (by decide) (by decide), q_call, q_kI, o0, Option.bind_some]
  obtain ⟨w1, g1, h1⟩ := h.app (32 * m_v nm sy sp 10 t c + 1) (by omega)
  obtain ⟨s1, so1⟩ := h1.S.obj
  obtain ⟨f1, o1⟩ := h1.B
  rw [g1, q_call, q_kI, h1.R, Option.bind_some, so1, Option.bind_some, vo w1 _ h1 9 (by decide) (by decide), q_call, q_kI, o1, Option.bind_some]
  obtain ⟨w2, g2, h2⟩ := h1.ap2 (2048 * m_v nm sy sp 9 t c) (by simp; omega)
  rw [g2, q_call, q_kV]
  refine ⟨w2, rfl, ?_⟩
  unfold m_stp48
  simp only [List.append_assoc] at h2
  exact h2
def m_step (nm sy sp : Nat → Int32) (t c : Int32) : List Int32 := if c = -1 then [255, 92] ++ (b2 5 ++ m_stp48 nm sy sp t c) else [255, 93] ++ (b2 6 ++ ([c &&& 255] ++ m_stp48 nm sy sp t c))
theorem m_step_len (t c : Int32) : (m_step nm sy sp t c).length ≤ 8 := by
  unfold m_step
  split <;> simp [b2_len, m_stp48]
theorem qV.step (h : qV w0 r0 n0 tw th sz dp nm sy sp w L) (t c : Int32) (hL : L.length + 8 ≤ 20000) : ∃ w', fWriter_step 9 1 t c w = some (.inl none, w') ∧ qV w0 r0 n0 tw th sz dp nm sy sp w' (L ++ m_step nm sy sp t c) := by
  unfold fWriter_step m_step
  by_cases hc : c = -1
  · rw [if_neg (not_not_intro hc), if_pos hc, h.O, Option.bind_some]
    obtain ⟨w1, g1, h1⟩ := h.code 92 (by omega)
    obtain ⟨f1, o1⟩ := h1.B
    rw [g1, q_call, q_kV, h1.R, Option.bind_some, o1, Option.bind_some]
    obtain ⟨w2, g2, h2⟩ := h1.ap2 5 (by simp; omega)
    rw [g2, q_call, q_kV]
    obtain ⟨w6, g6, h6⟩ := h2.stp48 t c (by simp [b2_len]; omega)
    refine ⟨w6, g6, ?_⟩
    simp only [List.append_assoc] at h6
    exact h6
  · rw [if_pos hc, if_neg hc, h.O, Option.bind_some]
    obtain ⟨w1, g1, h1⟩ := h.code 93 (by omega)
    obtain ⟨f1, o1⟩ := h1.B
    rw [g1, q_call, q_kV, h1.R, Option.bind_some, o1, Option.bind_some]
    obtain ⟨w2, g2, h2⟩ := h1.ap2 6 (by simp; omega)
    obtain ⟨f2, o2⟩ := h2.B
    rw [g2, q_call, q_kV, h2.R, Option.bind_some, o2, Option.bind_some]
    obtain ⟨w3, g3, h3⟩ := h2.app c (by simp [b2_len]; omega)
    rw [g3, q_call, q_kI]
    obtain ⟨w6, g6, h6⟩ := h3.stp48 t c (by simp [b2_len]; omega)
    refine ⟨w6, g6, ?_⟩
    simp only [List.append_assoc] at h6
    exact h6
def m_stps (nm sy sp : Nat → Int32) (t : Int32) : Nat → Int32 → List Int32
  | 0, _ => []
  | n + 1, c => (if sp (q_slot t c).toNatClampNeg = 0 then [] else m_step nm sy sp t c) ++ m_stps nm sy sp t n (c + 1)
def m_stys (nm sy sp : Nat → Int32) (t : Int32) : Nat → Int32 → List Int32
  | 0, _ => []
  | n + 1, c => (if sy (q_slot t c).toNatClampNeg = 0 then [] else m_style nm sy sp t c) ++ m_stys nm sy sp t n (c + 1)
theorem m_stps_len (t : Int32) : ∀ n c, (m_stps nm sy sp t n c).length ≤ 8 * n
  | 0, _ => Nat.le_refl _
  | n + 1, c => by
    rw [m_stps, List.length_append]
    have := m_stps_len t n (c + 1)
    have := m_step_len (nm := nm) (sy := sy) (sp := sp) t c
    split <;> (try simp) <;> omega
theorem m_stys_len (t : Int32) : ∀ n c, (m_stys nm sy sp t n c).length ≤ 14 * n
  | 0, _ => Nat.le_refl _
  | n + 1, c => by
    rw [m_stys, List.length_append]
    have := m_stys_len t n (c + 1)
    have := m_style_len (nm := nm) (sy := sy) (sp := sp) t c
    split <;> (try simp) <;> omega
theorem qV.seg36 (hn4 : (sz 2).toInt ≤ 4) (t : Int32) : ∀ (k : Nat) (c : Int32) (F : Nat) (w : PW) (L : List Int32), qV w0 r0 n0 tw th sz dp nm sy sp w L → k < F → c.toInt + k = (sz 2).toInt → L.length + 8 * k ≤ 20000 → ∃ w', fWriter_segments_36 F 9 1 t c w = some (.inl none, w') ∧ qV w0 r0 n0 tw th sz dp nm sy sp w' (L ++ m_stps nm sy sp t k c)
  | 0, c, F + 1, w, L, h, _, hi, hL => by
    rw [fWriter_segments_36, q_getR (k := 0) h.S.1 rfl, Option.bind_some, h.S.size 2 (by decide) (by decide), Option.bind_some, if_pos (by rw [q_lei]; show (sz 2).toInt ≤ _; omega), m_stps, List.append_nil]
    exact ⟨w, rfl, h⟩
  | k + 1, c, F + 1, w, L, h, hF, hi, hL => by
    obtain ⟨fs, hso⟩ := h.S.obj
    have e1 := q_suc (k := c) (by omega)
    rw [fWriter_segments_36, q_getR (k := 0) h.S.1 rfl, Option.bind_some, h.S.size 2 (by decide) (by decide), Option.bind_some, if_neg (by rw [q_lei]; show ¬ (sz 2).toInt ≤ _; omega), hso, Option.bind_some, h.S.hasStep, q_call, q_kI, m_stps]
    simp only [q_let]
    by_cases hb : sp (q_slot t c).toNatClampNeg = 0
    · rw [if_pos hb, if_pos hb, List.nil_append]
      exact qV.seg36 hn4 t k (c + 1) F w L h (by omega) (by omega) (by omega)
    · rw [if_neg hb, if_neg hb, h.O, Option.bind_some]
      obtain ⟨w1, g1, h1⟩ := h.step t c (by omega)
      have := m_step_len (nm := nm) (sy := sy) (sp := sp) t c
      rw [g1, q_call, q_kV]
      obtain ⟨w2, g2, h2⟩ := qV.seg36 hn4 t k (c + 1) F w1 _ h1 (by omega) (by omega) (by simp; omega)
      rw [List.append_assoc] at h2
      exact ⟨w2, g2, h2⟩
def m_segs (many : Int) (nm sy sp : Nat → Int32) (t : Int32) : List Int32 := m_stys nm sy sp t (many.toNat + 1) (-1) ++ m_stps nm sy sp t (many.toNat + 1) (-1)
theorem m_segs_len (many : Int) (h : many ≤ 4) (t : Int32) : (m_segs many nm sy sp t).length ≤ 110 := by
  unfold m_segs
  rw [List.length_append]
  have := m_stys_len (nm := nm) (sy := sy) (sp := sp) t (many.toNat + 1) (-1)
  have := m_stps_len (nm := nm) (sy := sy) (sp := sp) t (many.toNat + 1) (-1)
  omega
theorem qV.seg2 (hn1 : 1 ≤ (sz 2).toInt) (hn4 : (sz 2).toInt ≤ 4) (t : Int32) : ∀ (k : Nat) (c : Int32) (F : Nat) (w : PW) (L : List Int32), qV w0 r0 n0 tw th sz dp nm sy sp w L → k < F → c.toInt + k = (sz 2).toInt → L.length + 14 * k + 40 ≤ 20000 → ∃ w', fWriter_segments_2 F 9 1 t c w = some (.inl none, w') ∧ qV w0 r0 n0 tw th sz dp nm sy sp w' (L ++ (m_stys nm sy sp t k c ++ m_stps nm sy sp t ((sz 2).toInt.toNat + 1) (-1)))
  | 0, c, F + 1, w, L, h, _, hi, hL => by
    rw [fWriter_segments_2, q_getR (k := 0) h.S.1 rfl, Option.bind_some, h.S.size 2 (by decide) (by decide), Option.bind_some, if_pos (by rw [q_lei]; show (sz 2).toInt ≤ _; omega), m_stys, List.nil_append]
    have em : (-1 : Int32).toInt = -1 := rfl
    exact qV.seg36 hn4 t ((sz 2).toInt.toNat + 1) (-1) FUEL w L h (by show _ < 1000000; omega) (by omega) (by omega)
  | k + 1, c, F + 1, w, L, h, hF, hi, hL => by
    obtain ⟨fs, hso⟩ := h.S.obj
    have e1 := q_suc (k := c) (by omega)
    rw [fWriter_segments_2, q_getR (k := 0) h.S.1 rfl, Option.bind_some, h.S.size 2 (by decide) (by decide), Option.bind_some, if_neg (by rw [q_lei]; show ¬ (sz 2).toInt ≤ _; omega), hso, Option.bind_some, h.S.hasStyle, q_call, q_kI, m_stys]
    simp only [q_let]
    by_cases hb : sy (q_slot t c).toNatClampNeg = 0
    · rw [if_pos hb, if_pos hb, List.nil_append]
      exact qV.seg2 hn1 hn4 t k (c + 1) F w L h (by omega) (by omega) (by omega)
    · rw [if_neg hb, if_neg hb, h.O, Option.bind_some]
      obtain ⟨w1, g1, h1⟩ := h.style t c (by omega)
      have := m_style_len (nm := nm) (sy := sy) (sp := sp) t c
      rw [g1, q_call, q_kV]
      obtain ⟨w2, g2, h2⟩ := qV.seg2 hn1 hn4 t k (c + 1) F w1 _ h1 (by omega) (by omega) (by simp; omega)
      rw [List.append_assoc] at h2
      rw [List.append_assoc]
      exact ⟨w2, g2, h2⟩
theorem qV.segments (h : qV w0 r0 n0 tw th sz dp nm sy sp w L) (hn1 : 1 ≤ (sz 2).toInt) (hn4 : (sz 2).toInt ≤ 4) (t : Int32) (hL : L.length + 110 ≤ 20000) : ∃ w', fWriter_segments 9 1 t w = some (.inl none, w') ∧ qV w0 r0 n0 tw th sz dp nm sy sp w' (L ++ m_segs (sz 2).toInt nm sy sp t) := by
  have em : (-1 : Int32).toInt = -1 := rfl
  exact qV.seg2 hn1 hn4 t ((sz 2).toInt.toNat + 1) (-1) FUEL w L h (by show _ < 1000000; omega) (by omega) (by omega)
end
section
variable {w0 w : PW} {r0 n0 : Nat} {tw th : Int32} {sz dp nm sy sp : Nat → Int32} {L : List Int32} {e : Value} {P : List Nat} {rd : Int32}
/-- a stream without parts -/
def m_str0 (tw th : Int32) (sz dp nm sy sp : Nat → Int32) : List Int32 := [255, 79] ++ (m_sizes tw th sz dp ++ (m_segs (sz 2).toInt nm sy sp (-1) ++ [255, 217]))
theorem qV.stream0 (h : qV w0 r0 n0 tw th sz dp nm sy sp w L) (hn1 : 1 ≤ (sz 2).toInt) (hn4 : (sz 2).toInt ≤ 4) (hl : qL w0 7 e []) (hr7 : 7 ≠ r0) (he : ∀ y : Nat, .ref y = e → y ≠ 10 ∧ y ≠ r0) (hL : L.length + 200 ≤ 20000) : ∃ w', fWriter_streamBox 9 1 7 w = some (.inl none, w') ∧ qV w0 r0 n0 tw th sz dp nm sy sp w' (L ++ m_box 1785737827 (m_str0 tw th sz dp nm sy sp)) := by
  unfold fWriter_streamBox
  have hml := m_segs_len (nm := nm) (sy := sy) (sp := sp) (sz 2).toInt hn4 (-1)
  rw [h.O, Option.bind_some]
  obtain ⟨w1, g1, h1⟩ := h.openBox 1785737827 (by omega)
  rw [g1, q_call, q_kI, h1.O, Option.bind_some]
  obtain ⟨w2, g2, h2⟩ := h1.code 79 (by simp [b4_len]; omega)
  rw [g2, q_call, q_kV, h2.O, Option.bind_some]
  obtain ⟨w3, g3, h3⟩ := h2.sizes hn1 hn4 (by simp [b4_len]; omega)
  rw [g3, q_call, q_kV, h3.O, Option.bind_some]
  obtain ⟨w4, g4, h4⟩ := h3.segments hn1 hn4 (-1) (by simp only [List.length_append, b4_len, m_sizes_len, List.length_cons, List.length_nil]; omega)
  rw [g4, q_call, q_kV]
  have hlw : qL w4 7 e [] := h4.list hl ⟨by decide, hr7⟩ he (fun x hx => absurd hx (by simp))
  obtain ⟨fs, hlo⟩ := hlw.obj
  rw [show FUEL = 999999 + 1 from rfl, fWriter_streamBox_27, hlo, Option.bind_some, hlw.size, q_call, q_kI, if_pos (by decide), h4.O, Option.bind_some]
  obtain ⟨w5, g5, h5⟩ := h4.code 217 (by simp only [List.length_append, b4_len, m_sizes_len, List.length_cons, List.length_nil]; omega)
  rw [g5, q_call, q_kV, h5.O, Option.bind_some]
  rw [show L ++ (b4 0 ++ b4 1785737827) ++ [255, 79 &&& 255] ++ m_sizes tw th sz dp ++ m_segs (sz 2).toInt nm sy sp (-1) ++ [255, 217 &&& 255] = L ++ (b4 0 ++ (b4 1785737827 ++ m_str0 tw th sz dp nm sy sp)) by unfold m_str0; simp only [List.append_assoc]; rfl] at h5
  obtain ⟨w6, g6, h6⟩ := h5.close
  rw [g6, q_call, q_kV]
  exact ⟨w6, rfl, h6⟩
/-- the whole file, no part made -/
def m_file0 (tw th : Int32) (sz dp nm sy sp : Nat → Int32) (bi bk : Nat → Int32) (bL : Nat → List Int32) (n : Nat) : List Int32 := m_head sz dp (m_mb bi bk bL 1 n 0) ++ (m_mb bi bk bL 0 n 0 ++ m_box 1785737827 (m_str0 tw th sz dp nm sy sp))
theorem qB.begin {w : PW} {r n : Nat} {L : List Int32} {f : Nat → Int32} (h : qB w 10 r 20000 n L f) (h9 : w.1[9]? = some (.inr (9, [.ref 10]))) : ∃ w', fWriter_begin 9 w = some (.inl none, w') ∧ qB w' 10 r 20000 n [] f ∧ qE 10 w w' := by
  have hne := h.ne
  obtain ⟨ho, hd, h1, h2, h3, h4, h5, h6, h7⟩ := h
  unfold fWriter_begin
  obtain ⟨w1, g1, s1, F1⟩ := o_put (k := 2) ho (by simp) (.int 0)
  rw [q_getR (k := 0) h9 rfl, Option.bind_some, g1, Option.bind_some]
  exact ⟨w1, rfl, ⟨s1, F1.at hd hne.symm, by simp, by simp, h3, h4, h5, h6, fun i hi => absurd hi (Nat.not_lt_zero i)⟩, F1⟩
theorem qW_write0 {r n : Nat} {f : Nat → Int32} {e8 : Value} {Q : List Nat} {bi bk : Nat → Int32} {ba br bn : Nat → Nat} {bL : Nat → List Int32} {bf : Nat → Nat → Int32} (ho : qCo w rd) (h9 : w.1[9]? = some (.inr (9, [.ref 10]))) (hb : qB w 10 r 20000 n L f) (hs : qS w 1 tw th sz dp nm sy sp) (hr : r = 11 ∨ 67 ≤ r) (hn1 : 1 ≤ (sz 2).toInt) (hn4 : (sz 2).toInt ≤ 4) (hl : qL w 7 e []) (he : ∀ y : Nat, .ref y = e → y ≠ 10 ∧ y ≠ r) (hl8 : qL w 8 e8 Q) (he8 : ∀ y : Nat, .ref y = e8 → y ≠ 10 ∧ y ≠ r) (hB : qBx w r Q bi bk ba br bn bL bf) :
    ∃ w', fW_write 0 w = some (.inl (some (.int (Int32.ofNat (m_file0 tw th sz dp nm sy sp bi bk bL Q.length).length))), w') ∧ ∃ w0, qE 10 w w0 ∧ qV w0 r n tw th sz dp nm sy sp w' (m_file0 tw th sz dp nm sy sp bi bk bL Q.length) := by
  unfold fW_write
  rw [q_getR (k := 3) ho rfl, Option.bind_some, q_obj h9, Option.bind_some]
  obtain ⟨w0, g0, b0, F0⟩ := hb.begin h9
  have h90 := F0.at h9 (by decide)
  have ho0 : qCo w0 rd := F0.at ho (by decide)
  have hs0 : qS w0 1 tw th sz dp nm sy sp := hs.keep (fun x h1 h2 => F0.2.1 x (by omega))
  have hl0 : qL w0 7 e [] := hl.keep (fun y hy => F0.2.1 y (by
    rcases hy with h | h | h
    · omega
    · exact (he y h).1
    · exact absurd h (by simp)))
  have mQ : ∀ x ∈ Q, x ≠ 10 ∧ x ≠ r := fun x hx => by
    obtain ⟨k, hk⟩ := List.getElem?_of_mem hx
    exact (hB k x hk).2.2.1
  have hl80 : qL w0 8 e8 Q := hl8.keep (fun y hy => F0.2.1 y (by
    rcases hy with h | h | h
    · omega
    · exact (he8 y h).1
    · exact (mQ y h).1))
  have hB0 : qBx w0 r Q bi bk ba br bn bL bf := fun k x hx => by
    obtain ⟨o1, b1, c1, c2, c3⟩ := hB k x hx
    exact ⟨F0.at o1 c1.1, b1.keep (F0.2.1 _ c2.1) (F0.2.1 _ c3.1), c1, c2, c3⟩
  have hv0 : qV w0 r n tw th sz dp nm sy sp w0 [] := ⟨b0.bs, h90, hs0, hr⟩
  rw [g0, q_call, q_kV, q_getR (k := 3) ho0 rfl, Option.bind_some, q_getR (k := 0) ho0 rfl, Option.bind_some, q_getR (k := 2) ho0 rfl, Option.bind_some, q_obj h90, Option.bind_some]
  have l0 : 0 < w0.1.length := q_lt_len ho0
  have co : ∀ (w' : PW) (L' : List Int32), qV w0 r n tw th sz dp nm sy sp w' L' → qCo w' rd := fun w' L' h' => by
    unfold qCo
    rw [h'.keep (by decide) (by omega) l0]
    exact ho0
  have hq40 : Q.length ≤ 40 := hl8.choose_spec.2.1
  have hlen40 : ∀ k, k < Q.length → (bL k).length ≤ 40 := fun k hk => (hB k _ (List.getElem?_eq_getElem hk)).2.1.2.2.2.1
  have hmb : ∀ ins k i, i + k = Q.length → (m_mb bi bk bL ins k i).length ≤ 48 * k := by
    intro ins k
    induction k with
    | zero => intro i _; exact Nat.le_refl _
    | succ k ih =>
      intro i hi
      rw [m_mb, List.length_append]
      have := ih (i + 1) (by omega)
      have := hlen40 i (by omega)
      split
      · rw [m_box_len]; omega
      · simp; omega
  have hmb1 := hmb 1 Q.length 0 (by omega)
  have hmb0 := hmb 0 Q.length 0 (by omega)
  obtain ⟨w1, g1, h1⟩ := hv0.headBoxes hn1 hn4 hl80 (by omega) he8 hB0
  rw [g1, q_call, q_kV, q_getR (k := 3) (co w1 _ h1) rfl, Option.bind_some, q_getR (k := 2) (co w1 _ h1) rfl, Option.bind_some, h1.O, Option.bind_some]
  unfold fWriter_madeBoxes
  obtain ⟨w2, g2, h2⟩ := qV.mb2 hl80 (by omega) he8 hB0 0 Q.length 0 FUEL w1 _ h1 (by show _ < 1000000; omega) (by omega) (by rw [m_head_len]; omega)
  rw [show fWriter_madeBoxes_2 FUEL 9 8 0 0 w1 = _ from g2, q_call, q_kV, q_getR (k := 3) (co w2 _ h2) rfl, Option.bind_some, q_getR (k := 0) (co w2 _ h2) rfl, Option.bind_some, q_getR (k := 1) (co w2 _ h2) rfl, Option.bind_some, h2.O, Option.bind_some]
  obtain ⟨w3, g3, h3⟩ := h2.stream0 hn1 hn4 hl0 (by omega) he (by rw [List.length_append, m_head_len]; omega)
  rw [List.append_assoc] at h3
  rw [g3, q_call, q_kV, q_getR (k := 3) (co w3 _ h3) rfl, Option.bind_some, h3.R, Option.bind_some, h3.C, Option.bind_some]
  exact ⟨w3, rfl, w0, F0, h3⟩
end
