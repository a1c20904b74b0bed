theorem qB.copy24 {w : PW} {a r mo n : Nat} {L : List Int32} {f : Nat → Int32} {b s n' : Nat} {L' : List Int32} {f' : Nat → Int32} (h : qB w a r mo n L f) (k : qB w b s mo n' L' f') (hab : a ≠ b) (hrs : r ≠ s) (hn : L'.length ≤ n) :
    ∃ w' g, fBytes_copy_24 a b w = some (.inl none, w') ∧ qB w' a r mo n L' g ∧ qF (fun x => x = a ∨ x = r) w w' ∧ w'.2 = w.2 := by
  have hne := h.ne
  have h0 := k
  obtain ⟨ho, hd, h1, h2, h3, h4, h5, h6, h7⟩ := h
  obtain ⟨ko, kd, k1, k2, k3, k4, k5, k6, k7⟩ := k
  have hbr : b ≠ r := fun e => by rw [e, hd] at ko; cases ko
  unfold fBytes_copy_24
  rw [q_getR ko rfl, Option.bind_some, q_getR ho rfl, Option.bind_some, q_getI ko rfl, Option.bind_some]
  obtain ⟨w1, g1, s1, F1⟩ := o_copy (ty := .byte) (n := L'.length) kd hd (by omega) (by omega) (by omega) (fun i _ => k6 i)
  rw [g1, Option.bind_some]
  have ko1 := F1.at ko hbr
  have ho1 := F1.at ho hne
  rw [q_getI ko1 rfl, Option.bind_some]
  obtain ⟨w2, g2, s2, F2⟩ := o_put (k := 2) ho1 (by simp) (.int (Int32.ofNat L'.length))
  rw [g2, Option.bind_some]
  refine ⟨w2, _, rfl, ⟨s2, F2.at s1 hne.symm, hn, k2, h3, h4, h5, fun i => ?_, fun i hi => ?_⟩, (F1.fr.mono (fun _ _ h => Or.inr h)).tr F2.fr (fun _ _ h => Or.inl h), F2.2.2.trans F1.2.2⟩
  · unfold va_cpy
    split
    · exact k6 _
    · exact h6 _
  · unfold va_cpy
    rw [if_pos (by omega), ← k7 i hi]
    congr 2
    omega
theorem qB.copy {w : PW} {a r mo n : Nat} {L : List Int32} {f : Nat → Int32} {b s n' : Nat} {L' : List Int32} {f' : Nat → Int32} (h : qB w a r mo n L f) (k : qB w b s mo n' L' f') (hab : a ≠ b) (hrs : r ≠ s) :
    ∃ w' r2 n2 g, fBytes_copy a b w = some (.inl none, w') ∧ qB w' a r2 mo n2 L' g ∧ qF (fun x => x = a ∨ x = r) w w' ∧ (r2 = r ∨ w.1.length ≤ r2) ∧ n ≤ n2 ∧ w'.2.2 + 7 * n ≤ w.2.2 + 7 * n2 := by
  have hh := h
  have kk := k
  have hne := h.ne
  obtain ⟨ho, hd, h1, h2, h3, h4, h5, h6, h7⟩ := h
  obtain ⟨ko, kd, k1, k2, k3, k4, k5, k6, k7⟩ := k
  have ha : a < w.1.length := q_lt_len ho
  have hr : r < w.1.length := q_lt_len hd
  have hs : s < w.1.length := q_lt_len kd
  have hb : b < w.1.length := q_lt_len ko
  have has : a ≠ s := fun e => by rw [e, kd] at ho; cases ho
  unfold fBytes_copy
  have eR : p_getR w a 2 1 = some r := q_getR ho rfl
  have eS : p_getR w b 2 1 = some s := q_getR ko rfl
  simp only [eR, eS, q_len hd, q_len kd, Option.bind_some, q_le (m := n') (n := n) (by omega) (by omega)]
  by_cases hn : n' ≤ n
  · simp only [hn, if_true]
    obtain ⟨w', g, g1, g2, g3, g4⟩ := hh.copy24 kk hab hrs (by omega)
    exact ⟨w', r, n, g, g1, g2, g3, Or.inl rfl, Nat.le_refl _, by rw [g4]; exact Nat.le_refl _⟩
  · simp only [hn, if_false]
    obtain ⟨w1, g1, s1, F1⟩ := o_newA w 1 1 n' (by omega) (by omega)
    rw [g1]
    have ho1 := F1.at ho
    obtain ⟨w2, g2, s2, F2⟩ := o_put (k := 1) ho1 (by simp) (.ref w.1.length)
    rw [g2, Option.bind_some]
    have b1 : qB w2 b s mo n' L' f' := ⟨F2.at (F1.at ko) hab.symm, F2.at (F1.at kd) has.symm, k1, k2, k3, k4, k5, k6, k7⟩
    have ho2 : w2.1[a]? = some (.inr (2, [.int (Int32.ofNat mo), .ref w.1.length, .int (Int32.ofNat L.length)])) := s2
    have hd2 : w2.1[w.1.length]? = some (.inl (1, n', .inl fun _ => 0)) := F2.at s1 (by omega)
    have hbr : b ≠ w.1.length := by omega
    unfold fBytes_copy_24
    rw [q_getR b1.o rfl, Option.bind_some, q_getR ho2 rfl, Option.bind_some, q_getI b1.o rfl, Option.bind_some]
    obtain ⟨w3, g3, s3, F3⟩ := o_copy (ty := .byte) (n := L'.length) b1.d hd2 (by omega) (by omega) (by omega) (fun i _ => k6 i)
    rw [g3, Option.bind_some]
    have ko3 := F3.at b1.o hbr
    have ho3 := F3.at ho2 (by omega)
    rw [q_getI ko3 rfl, Option.bind_some]
    obtain ⟨w4, g4, s4, F4⟩ := o_put (k := 2) ho3 (by simp) (.int (Int32.ofNat L'.length))
    rw [g4, Option.bind_some]
    refine ⟨w4, w.1.length, n', _, rfl, ⟨s4, F4.at s3 (by omega), by omega, k2, h3, k4, k5, fun i => ?_, fun i hi => ?_⟩, ?_, Or.inr (Nat.le_refl _), by omega, ?_⟩
    · unfold va_cpy
      split
      · exact k6 _
      · rfl
    · unfold va_cpy
      rw [if_pos (by omega), ← k7 i hi]
      congr 2
      omega
    · exact ((((F1.fr (by omega)).mono (Q := fun x => x = a ∨ x = r) (fun _ _ h => h.elim)).tr F2.fr (fun _ _ h => Or.inl h)).tr F3.fr (fun x hx h => by omega)).tr F4.fr (fun _ _ h => Or.inl h)
    · rw [F4.2.2, F3.2.2, F2.2.2, F1.2.2.2]
      omega
/-- a row of numbers -/
def qN (w : PW) (a r n : Nat) (L : List Int32) (f : Nat → Int32) : Prop :=
  w.1[a]? = some (.inr (5, [.ref r, .int (Int32.ofNat L.length)])) ∧ w.1[r]? = some (.inl (0, n, .inl f)) ∧ L.length ≤ n ∧
  (n = 8 ∨ n = 16 ∨ n = 32 ∨ n = 64 ∨ n = 128 ∨ n = 256 ∨ n = 512 ∨ n = 1024 ∨ n = 2048 ∨ n = 4096) ∧ ∀ i (h : i < L.length), f i = L[i]
theorem qN.ne {w : PW} {a r n : Nat} {L : List Int32} {f : Nat → Int32} (h : qN w a r n L f) : a ≠ r := by
  intro e
  have h1 := h.1
  rw [e, h.2.1] at h1
  cases h1
theorem qN.get {w : PW} {a r n : Nat} {L : List Int32} {f : Nat → Int32} (h : qN w a r n L f) (i : Int32) : fNumbers_get a i w = some (.inl (some (.int (q_byte L i))), w) := by
  obtain ⟨ho, hd, h1, h2, h3⟩ := h
  unfold fNumbers_get q_byte
  by_cases hi : i < 0
  · simp only [hi, if_true]
  · simp only [hi, if_false, q_getI (k := 1) ho rfl, q_getR (k := 0) ho rfl, Option.bind_some, q_ile hi (show L.length < 2147483648 by omega)]
    by_cases hc : L.length ≤ i.toNatClampNeg
    · rw [if_pos hc, List.getElem?_eq_none hc]; rfl
    · rw [if_neg hc, q_ald hd (q_0le hi) ((q_ilt hi (by omega)).mpr (by omega)) (by omega)]
      simp only [Option.bind_some]
      rw [h3 _ (by omega), List.getElem?_eq_getElem (by omega)]; rfl
theorem qN.app30 {w : PW} {a r n : Nat} {L : List Int32} {f : Nat → Int32} (h : qN w a r n L f) (b : Int32) (hn : L.length < n) :
    ∃ w' f', fNumbers_append_30 a b w = some (.inl none, w') ∧ qN w' a r n (L ++ [b]) f' ∧ qF (fun x => x = a ∨ x = r) w w' ∧ w'.2 = w.2 := by
  have hne := h.ne
  obtain ⟨ho, hd, h1, h2, h7⟩ := h
  have e1 : (Int32.ofNat L.length).toNatClampNeg = L.length := q_tno (by omega)
  unfold fNumbers_append_30
  rw [q_getR ho rfl, Option.bind_some, q_getI ho rfl, Option.bind_some]
  obtain ⟨w1, g1, s1, F1⟩ := o_ast hd (q_ge0 _ (by omega)) ((q_lt (m := L.length) (by omega) (by omega)).mpr hn) (by omega) b
  rw [g1, Option.bind_some]
  have ho1 := F1.at ho hne
  rw [q_getI ho1 rfl, Option.bind_some]
  obtain ⟨w2, g2, s2, F2⟩ := o_put (k := 1) ho1 (by simp) (.int (Int32.ofNat L.length + 1))
  rw [g2, Option.bind_some]
  have hd2 := F2.at s1 hne.symm
  rw [e1] at hd2
  refine ⟨w2, _, rfl, ⟨?_, hd2, by simp; omega, h2, fun i hi => ?_⟩, ?_, F2.2.2.trans F1.2.2⟩
  · rw [s2, List.length_append, show Int32.ofNat (L.length + [b].length) = Int32.ofNat L.length + 1 from Int32.ofNat_add _ _]
    rfl
  · unfold upd
    by_cases hi2 : i = L.length
    · rw [if_pos hi2]
      subst hi2
      simp
    · rw [if_neg hi2, h7 i (by simp at hi; omega), List.getElem_append_left]
  · exact (F1.fr.mono (fun _ _ h => Or.inr h)).tr F2.fr (fun _ _ h => Or.inl h)
theorem qN.append {w : PW} {a r n : Nat} {L : List Int32} {f : Nat → Int32} (h : qN w a r n L f) (b : Int32) (hL : L.length < 2600) :
    ∃ w' r' n' f', fNumbers_append a b w = some (.inl none, w') ∧ qN w' a r' n' (L ++ [b]) f' ∧ qF (fun x => x = a ∨ x = r) w w' ∧ (r' = r ∨ w.1.length ≤ r') ∧ n ≤ n' ∧ w'.2.2 + 7 * n ≤ w.2.2 + 7 * n' := by
  have h0 := h
  have hne := h.ne
  obtain ⟨ho, hd, h1, h2, h7⟩ := h
  have eI : p_getI w a 5 1 = some (Int32.ofNat L.length) := q_getI ho rfl
  have eR : p_getR w a 5 0 = some r := q_getR ho rfl
  have eL := q_len hd
  have ha : a < w.1.length := q_lt_len ho
  have hr : r < w.1.length := q_lt_len hd
  unfold fNumbers_append
  simp only [eI, eR, eL, Option.bind_some, q_lt (m := L.length) (n := n) (by omega) (by omega)]
  by_cases hn : L.length < n
  · simp only [hn, if_true]
    obtain ⟨w', f', g1, g2, g3, g4⟩ := h0.app30 b hn
    exact ⟨w', r, n, f', g1, g2, g3, Or.inl rfl, Nat.le_refl _, by rw [g4]; exact Nat.le_refl _⟩
  · simp only [hn, if_false]
    have e2 : (2 : Int32) * Int32.ofNat n = Int32.ofNat (2 * n) := (Int32.ofNat_mul 2 n).symm
    rw [e2]
    unfold fAR_copyOf4
    have e3 : Int32.ofNat (2 * n) ≠ Int32.ofNat n := fun e => by
      have := congrArg Int32.toNatClampNeg e
      rw [q_tno (by omega), q_tno (by omega)] at this
      omega
    simp only [eL, Option.bind_some, e3, not_false_eq_true, if_true]
    obtain ⟨w1, g1, s1, F1⟩ := o_newA w 0 4 (2 * n) (by omega) (by omega)
    rw [g1]
    have hd1 := F1.at hd
    rw [q_len hd1, Option.bind_some, q_min (by omega) (by omega), Nat.min_eq_left (by omega)]
    obtain ⟨w2, g2, s2, F2⟩ := o_copy (ty := .int) (n := n) hd1 s1 (by omega) (Nat.le_refl _) (by omega) (fun i _ => rfl)
    rw [g2, Option.bind_some, q_call, q_kR]
    have ho2 := F2.at (F1.at ho) (by omega)
    obtain ⟨w3, g3, s3, F3⟩ := o_put (k := 0) ho2 (by simp) (.ref w.1.length)
    rw [g3, Option.bind_some]
    have hB : qN w3 a w.1.length (2 * n) L (va_cpy f (fun _ => 0) 0 0 n) := by
      refine ⟨s3, F3.at s2 (by omega), by omega, by omega, fun i hi => ?_⟩
      unfold va_cpy
      rw [if_pos (by omega), ← h7 i hi]
      congr 1
      omega
    obtain ⟨w', f', k1, k2, k3, k4⟩ := hB.app30 b (by omega)
    refine ⟨w', w.1.length, 2 * n, f', k1, k2, ?_, Or.inr (Nat.le_refl _), by omega, by rw [k4, F3.2.2, F2.2.2, F1.2.2.2]; omega⟩
    exact q_fr2 (r' := w.1.length) ((((F1.fr (by omega)).mono (Q := fun x => x = a) (fun _ _ h => h.elim)).tr F2.fr (fun x hx h => by omega)).tr F3.fr (fun _ _ h => h)) k3 (Or.inr (Nat.le_refl _))
