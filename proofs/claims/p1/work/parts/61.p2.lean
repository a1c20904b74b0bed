section
variable {w : PW} {a : Nat} {e : Value} {P : List Nat}
theorem q_clear27 {r n : Nat} (hn : n ≤ 49) : ∀ (k i F : Nat) (w : PW) (f : Nat → Option Nat), w.1[r]? = some (.inl (4, n, .inr (.inr (.inr (.inr f))))) → k < F → i + k ≤ n → ∃ w', fAL_clear_27 F r (Int32.ofNat (i + k)) (Int32.ofNat i) w = some (.inl none, w') ∧ (∃ f', w'.1[r]? = some (.inl (4, n, .inr (.inr (.inr (.inr f'))))) ∧ ∀ j, f' j = if i ≤ j ∧ j < i + k then none else f j) ∧ qE r w w'
  | 0, i, F + 1, w, f, h, _, hi => by
    rw [fAL_clear_27, if_pos ((q_le (by omega) (by omega)).mpr (by omega))]
    exact ⟨w, rfl, ⟨f, h, fun j => by rw [if_neg (by omega)]⟩, rfl, fun _ _ => rfl, rfl⟩
  | k + 1, i, F + 1, w, f, h, hF, hi => by
    rw [fAL_clear_27, if_neg (fun hh => by have := (q_le (m := i + (k + 1)) (n := i) (by omega) (by omega)).mp hh; omega)]
    obtain ⟨w1, g1, s1, F1⟩ := o_astR h (q_ge0 i (by omega)) ((q_lt (by omega) (by omega)).mpr (by omega)) (by omega) none rfl
    rw [g1, Option.bind_some]
    rw [q_tno (by omega)] at s1
    obtain ⟨w2, g2, ⟨f', t2, r2⟩, F2⟩ := q_clear27 hn k (i + 1) F w1 _ s1 (by omega) (by omega)
    refine ⟨w2, ?_, ⟨f', t2, fun j => ?_⟩, F2.1.trans F1.1, fun y hy => (F2.2.1 y hy).trans (F1.2.1 y hy), F2.2.2.trans F1.2.2⟩
    · show fAL_clear_27 F r (Int32.ofNat (i + (k + 1))) (Int32.ofNat i + 1) w1 = _
      rw [show Int32.ofNat i + 1 = Int32.ofNat (i + 1) from (Int32.ofNat_add i 1).symm, show i + (k + 1) = i + 1 + k by omega, g2]
    · rw [r2, va_up_at]
      by_cases hj : j = i
      · rw [if_neg (by omega), if_pos hj, if_pos (by omega)]
      · rw [if_neg hj]
        by_cases hj2 : i + 1 ≤ j ∧ j < i + 1 + k
        · rw [if_pos hj2, if_pos (by omega)]
        · rw [if_neg hj2, if_neg (by omega)]
theorem qL.clear (h : qL w a e P) : ∃ w', fAL_clear a w = some (.inl none, w') ∧ qL w' a e [] ∧ qF (fun y => y = a ∨ .ref y = e) w w' ∧ w'.2 = w.2 ∧ w'.1.length = w.1.length := by
  obtain ⟨m, ho, h2, h3, h4⟩ := h
  unfold fAL_clear
  rw [q_getI (k := 0) ho rfl, Option.bind_some]
  obtain ⟨w1, g1, s1, F1⟩ := o_put (k := 0) ho (by simp) (.int (m + 1))
  have s1' : w1.1[a]? = some (.inr (11, [.int (m + 1), e, .int (Int32.ofNat P.length)])) := s1
  rw [g1, Option.bind_some, q_getV (k := 1) s1' rfl, Option.bind_some]
  obtain ⟨w2, g2, s2, F2⟩ := o_put (k := 2) s1' (by simp) (.int 0)
  have s2' : w2.1[a]? = some (.inr (11, [.int (m + 1), e, .int (Int32.ofNat ([] : List Nat).length)])) := s2
  rcases h4 with ⟨e1, e2⟩ | ⟨r, n, f, e1, hr, hn, hle, hf⟩
  · subst e1
    subst e2
    rw [q_splX, q_getI (k := 2) s1' rfl, Option.bind_some, g2, Option.bind_some]
    refine ⟨w2, by rw [show FUEL = 999999 + 1 from rfl, fAL_clear_27T, if_pos (by decide)], ⟨m + 1, s2', by simp, by simp, Or.inl ⟨rfl, rfl⟩⟩, (F1.fr.mono (fun _ _ h => Or.inl h)).tr F2.fr (fun _ _ h => Or.inl h), F2.2.2.trans F1.2.2, F2.1.trans F1.1⟩
  · subst e1
    have hra : r ≠ a := fun h => by rw [h, ho] at hr; cases hr
    rw [q_splR, q_getI (k := 2) s1' rfl, Option.bind_some, g2, Option.bind_some]
    obtain ⟨w3, g3, ⟨f', t3, r3⟩, F3⟩ := q_clear27 (by omega) P.length 0 FUEL w2 f (F2.at (F1.at hr hra) hra) (by show _ < 1000000; omega) (by omega)
    rw [Nat.zero_add] at g3
    refine ⟨w3, g3, ⟨m + 1, F3.at s2' hra.symm, by simp, by simp, Or.inr ⟨r, n, f', rfl, t3, hn, by simp, fun i => ?_⟩⟩, ((F1.fr.mono (fun _ _ h => Or.inl h)).tr F2.fr (fun _ _ h => Or.inl h)).tr F3.fr (fun y _ h => Or.inr (by rw [show y = r from h])), (F3.2.2.trans F2.2.2).trans F1.2.2, (F3.1.trans F2.1).trans F1.1⟩
    rw [r3]
    by_cases hi : i < P.length
    · rw [if_pos (by omega)]
      simp
    · rw [if_neg (by omega), hf, List.getElem?_eq_none (by omega)]
      simp
theorem qL.keep {w' : PW} (h : qL w a e P) (hk : ∀ y, (y = a ∨ .ref y = e ∨ y ∈ P) → w'.1[y]? = w.1[y]?) : qL w' a e P := by
  obtain ⟨m, ho, h2, h3, h4⟩ := h
  refine ⟨m, by rw [hk a (Or.inl rfl), ho], h2, fun x hx => by rw [p_elt_keep (hk x (Or.inr (Or.inr hx))), h3 x hx], ?_⟩
  rcases h4 with h4 | ⟨r, n, f, e1, hr, h5⟩
  · exact Or.inl h4
  · exact Or.inr ⟨r, n, f, e1, by rw [hk r (Or.inr (Or.inl (by rw [e1]))), hr], h5⟩
end
