section
variable {w : PW} {rd lc cnt : Int32} {pa : Nat → Nat → Int32} {tw th : Int32} {sz dp nm sy sp : Nat → Int32}
theorem qB.zero {a r n : Nat} {L : List Int32} {f : Nat → Int32} (h : qB w a r 20000 n L f) : ∃ w', p_put w a 2 2 (.int 0) = some w' ∧ qB w' a r 20000 n [] f ∧ qE a w w' := by
  have hne := h.ne
  obtain ⟨ho, hd, h1, h2, h3, h4, h5, h6, h7⟩ := h
  obtain ⟨w1, g1, s1, F1⟩ := o_put (k := 2) ho (by simp) (.int 0)
  exact ⟨w1, g1, ⟨s1, F1.at hd hne.symm, by simp, by simp, h3, h4, h5, h6, fun i hi => absurd hi (Nat.not_lt_zero i)⟩, F1⟩
/-- where the rows that move may lie -/
def qD (ro rf rt r4 r6 : Nat) (e7 e8 : Value) : Prop :=
  ((ro = 11 ∨ 67 ≤ ro) ∧ (rf = 13 ∨ 67 ≤ rf) ∧ (rt = 15 ∨ 67 ≤ rt) ∧ (r4 = 24 ∨ 67 ≤ r4) ∧ (r6 = 26 ∨ 67 ≤ r6)) ∧ (ro ≠ rf ∧ ro ≠ rt ∧ ro ≠ r4 ∧ ro ≠ r6 ∧ rf ≠ rt ∧ rf ≠ r4 ∧ rf ≠ r6 ∧ rt ≠ r4 ∧ rt ≠ r6 ∧ r4 ≠ r6) ∧
  (∀ y : Nat, .ref y = e7 → 67 ≤ y ∧ y ≠ ro ∧ y ≠ rf ∧ y ≠ rt ∧ y ≠ r4 ∧ y ≠ r6) ∧ (∀ y : Nat, .ref y = e8 → 67 ≤ y ∧ y ≠ ro ∧ y ≠ rf ∧ y ≠ rt ∧ y ≠ r4 ∧ y ≠ r6) ∧ ∀ y : Nat, .ref y = e7 → ¬ .ref y = e8
/-- all of the class's object, parts and boxes aside -/
def qA0 (w : PW) (rd : Int32) (tw th : Int32) (sz dp nm sy sp : Nat → Int32) (e7 e8 : Value) (P Q : List Nat) (ro no rf nf rt nt : Nat) (Lo Lf Lt : List Int32) (fo ff ft : Nat → Int32) (tr hr : Int32) (szr dpr nmr syr spr : Nat → Int32) (co fr en lc cnt : Int32) (pa : Nat → Nat → Int32) (he : Int32) (r4 n4 r6 n6 : Nat) (L4 L6 : List Int32) (f4 f6 : Nat → Int32) : Prop :=
  qCo w rd ∧ qS w 1 tw th sz dp nm sy sp ∧ qL w 7 e7 P ∧ qL w 8 e8 Q ∧ w.1[9]? = some (.inr (9, [.ref 10])) ∧ qB w 10 ro 20000 no Lo fo ∧ qB w 12 rf 20000 nf Lf ff ∧ qB w 14 rt 20000 nt Lt ft ∧ qS w 16 tr hr szr dpr nmr syr spr ∧ qRd w co fr en lc cnt pa he r4 n4 r6 n6 L4 L6 f4 f6 ∧ qD ro rf rt r4 r6 e7 e8
theorem qW_clear {e7 e8 : Value} {P Q : List Nat} {ro no rf nf rt nt : Nat} {Lo Lf Lt : List Int32} {fo ff ft : Nat → Int32} {tr hr : Int32} {szr dpr nmr syr spr : Nat → Int32} {co fr en : Int32} {he : Int32} {r4 n4 r6 n6 : Nat} {L4 L6 : List Int32} {f4 f6 : Nat → Int32}
    (h : qA0 w rd tw th sz dp nm sy sp e7 e8 P Q ro no rf nf rt nt Lo Lf Lt fo ff ft tr hr szr dpr nmr syr spr co fr en lc cnt pa he r4 n4 r6 n6 L4 L6 f4 f6) :
    ∃ w' sy' sp' syr' spr' pa', fW_clear 0 w = some (.inl none, w') ∧ qA0 w' 0 tw th (upd (upd (upd sz 0 tw) 1 th) 2 1) (q_all8 dp 4 0) (q_rst nm 7 4) sy' sp' e7 e8 [] [] ro no rf nf rt nt [] [] [] fo ff ft tr hr szr dpr nmr syr' spr' (-1) fr en lc 0 pa' he r4 n4 r6 n6 [] [] f4 f6 ∧ (∀ j, j < 125 → sy' j = (if j = 0 then 1 else 0) ∧ sp' j = (if j = 0 then 1 else 0)) ∧ (∀ x, 37 ≤ x → (∀ y : Nat, .ref y = e7 ∨ .ref y = e8 → x ≠ y) → w'.1[x]? = w.1[x]?) ∧ w'.2 = w.2 ∧ w'.1.length = w.1.length := by
  obtain ⟨hO, hS, h7, h8, h9, hbo, hbf, hbt, hSr, hR, hD⟩ := h
  have hD0 := hD
  obtain ⟨⟨d1, d2, d3, d4, d5⟩, ⟨n1, n2, n3, n4', n5, n6', n7, n8, n9, n10⟩, y7, y8, y78⟩ := hD
  obtain ⟨fs, so⟩ := hS.obj
  unfold fW_clear
  rw [q_getR (k := 0) hO rfl, Option.bind_some, Option.bind_some, q_getI (k := 5) hS.1 rfl, Option.bind_some, Option.bind_some, q_getI (k := 6) hS.1 rfl, Option.bind_some, so, Option.bind_some]
  obtain ⟨w1, sy', sp', g1, s1, t1, F1⟩ := hS.restart tw th
  rw [g1, q_call, q_kV]
  have k1 : ∀ x, (x < 1 ∨ 7 ≤ x) → w1.1[x]? = w.1[x]? := fun x hx => F1.2.2 x (by omega)
  have o1 : qCo w1 rd := by unfold qCo; rw [k1 0 (by omega)]; exact hO
  have elP : ∀ x ∈ P, 37 ≤ x ∨ x < 1 ∨ 7 ≤ x ∨ True := fun _ _ => by simp
  -- the lists keep their rows; their elements need only stay elements
  have l7a : ∃ m, w1.1[7]? = some (.inr (11, [.int m, e7, .int (Int32.ofNat P.length)])) := by
    obtain ⟨m, hm, -⟩ := h7
    exact ⟨m, by rw [k1 7 (by omega), hm]⟩
  have pk : ∀ x, p_elt w x = true → p_elt w1 x = true := fun x hx => by
    obtain ⟨c, gs, q1, q2⟩ := p_elt_some hx
    have : x < 1 ∨ 7 ≤ x := by
      by_cases hx7 : 7 ≤ x
      · exact Or.inr hx7
      · by_cases hx1 : x < 1
        · exact Or.inl hx1
        · have hx6 : x = 1 ∨ x = 2 ∨ x = 3 ∨ x = 4 ∨ x = 5 ∨ x = 6 := by omega
          rcases hx6 with e | e | e | e | e | e <;> subst e
          · rw [hS.1] at q1; cases q1; rcases q2 with q | q <;> cases q
          · rw [hS.2.1] at q1; cases q1
          · rw [hS.2.2.1] at q1; cases q1
          · rw [hS.2.2.2.1] at q1; cases q1
          · rw [hS.2.2.2.2.1] at q1; cases q1
          · rw [hS.2.2.2.2.2.1] at q1; cases q1
    rw [p_elt_keep (k1 x this), hx]
  have lst : ∀ (a : Nat) (e : Value) (M : List Nat), (a = 7 ∨ a = 8) → (∀ y : Nat, .ref y = e → 67 ≤ y) → qL w a e M → qL w1 a e M := fun a e M ha hy hl => by
    obtain ⟨m, m1, m2, m3, m4⟩ := hl
    refine ⟨m, by rw [k1 a (by omega), m1], m2, fun x hx => pk x (m3 x hx), ?_⟩
    rcases m4 with m4 | ⟨r, n, f, m5, m6, m7⟩
    · exact Or.inl m4
    · exact Or.inr ⟨r, n, f, m5, by rw [k1 r (by have := hy r m5.symm; omega), m6], m7⟩
  have h71 := lst 7 e7 P (Or.inl rfl) (fun y hy => (y7 y hy).1) h7
  have h81 := lst 8 e8 Q (Or.inr rfl) (fun y hy => (y8 y hy).1) h8
  obtain ⟨f7, o7⟩ := h71.obj
  rw [q_getR (k := 1) o1 rfl, Option.bind_some, o7, Option.bind_some]
  obtain ⟨w2, g2, l2, F2, c2, n2'⟩ := h71.clear
  rw [g2, q_call, q_kV]
  have k2 : ∀ x, x < w1.1.length → x ≠ 7 → (∀ y : Nat, .ref y = e7 → x ≠ y) → w2.1[x]? = w1.1[x]? := fun x a b c => q_keepF F2 a (by rintro (h | h); exact b h; exact c x h rfl)
  have len1 : w1.1.length = w.1.length := F1.1
  have l66 : 36 < w.1.length := q_lt_len (hR.2.2.2.2.1.2 36 (by omega) (by omega))
  have s2 : ∀ x, x < 67 → x < w.1.length → x ≠ 7 → w2.1[x]? = w1.1[x]? := fun x a a2 b => k2 x (by omega) b (fun y hy e => by have := (y7 y hy).1; omega)
  have o2 : qCo w2 rd := by unfold qCo; rw [s2 0 (by omega) (by omega) (by omega)]; exact o1
  have h82 : qL w2 8 e8 Q := by
    obtain ⟨m, m1, m2, m3, m4⟩ := h81
    have l8 : 8 < w1.1.length := q_lt_len m1
    refine ⟨m, by rw [s2 8 (by omega) (by omega) (by omega), m1], m2, fun x hx => ?_, ?_⟩
    · obtain ⟨c, gs, q1, q2⟩ := p_elt_some (m3 x hx)
      rw [p_elt_keep (k2 x (q_lt_len q1) (fun e => by
        rw [e] at q1
        obtain ⟨m', hm', -⟩ := h71
        rw [hm'] at q1
        cases q1
        rcases q2 with q | q <;> cases q) (fun y hy e => by
        rw [e] at q1
        obtain ⟨m', -, -, -, hm'⟩ := h71
        rcases hm' with ⟨x1, -⟩ | ⟨r, n, f, x1, hr, -⟩
        · rw [x1] at hy; cases hy
        · rw [x1] at hy
          cases hy
          rw [hr] at q1
          cases q1)), m3 x hx]
    · rcases m4 with m4 | ⟨r, n, f, m5, m6, m7⟩
      · exact Or.inl m4
      · exact Or.inr ⟨r, n, f, m5, by rw [k2 r (q_lt_len m6) (by have := (y8 r m5.symm).1; omega) (fun y hy e => y78 y hy (by rw [← e, m5])), m6], m7⟩
  obtain ⟨f8, o8⟩ := h82.obj
  rw [q_getR (k := 2) o2 rfl, Option.bind_some, o8, Option.bind_some]
  obtain ⟨w3, g3, l3, F3, c3, n3'⟩ := h82.clear
  rw [g3, q_call, q_kV]
  have k3 : ∀ x, x < w2.1.length → x ≠ 8 → (∀ y : Nat, .ref y = e8 → x ≠ y) → w3.1[x]? = w2.1[x]? := fun x a b c => q_keepF F3 a (by rintro (h | h); exact b h; exact c x h rfl)
  have s3 : ∀ x, x < 67 → x < w.1.length → x ≠ 8 → w3.1[x]? = w2.1[x]? := fun x a a2 b => k3 x (by omega) b (fun y hy e => by have := (y8 y hy).1; omega)
  have o3 : qCo w3 rd := by unfold qCo; rw [s3 0 (by omega) (by omega) (by omega)]; exact o2
  have h93 : w3.1[9]? = some (.inr (9, [.ref 10])) := by rw [s3 9 (by omega) (by omega) (by omega), s2 9 (by omega) (by omega) (by omega), k1 9 (by omega), h9]
  -- a row that is none of the lists' rows
  have row : ∀ x, x < w.1.length → 7 ≤ x → x ≠ 7 → x ≠ 8 → (∀ y : Nat, .ref y = e7 → x ≠ y) → (∀ y : Nat, .ref y = e8 → x ≠ y) → w3.1[x]? = w.1[x]? := fun x a b c d e f => by rw [k3 x (by omega) d f, k2 x (by omega) c e, k1 x (by omega)]
  have st : ∀ x, x < 67 → x < w.1.length → 9 ≤ x → w3.1[x]? = w.1[x]? := fun x a b c => row x b (by omega) (by omega) (by omega) (fun y hy e => by have := (y7 y hy).1; omega) (fun y hy e => by have := (y8 y hy).1; omega)
  have kb : ∀ (a r n : Nat) (L : List Int32) (f : Nat → Int32), 9 ≤ a → a < 37 → 9 ≤ r → (∀ y : Nat, .ref y = e7 → r ≠ y) → (∀ y : Nat, .ref y = e8 → r ≠ y) → qB w a r 20000 n L f → qB w3 a r 20000 n L f := fun a r n L f a1 a2 a3 a4 a5 hb => hb.keep (st a (by omega) (by omega) a1) (row r (q_lt_len hb.d) (by omega) (by omega) (by omega) a4 a5)
  have hbo3 := kb 10 ro no Lo fo (by omega) (by omega) (by omega) (fun y hy e => (y7 y hy).2.1 e.symm) (fun y hy e => (y8 y hy).2.1 e.symm) hbo
  have hbf3 := kb 12 rf nf Lf ff (by omega) (by omega) (by omega) (fun y hy e => (y7 y hy).2.2.1 e.symm) (fun y hy e => (y8 y hy).2.2.1 e.symm) hbf
  have hbt3 := kb 14 rt nt Lt ft (by omega) (by omega) (by omega) (fun y hy e => (y7 y hy).2.2.2.1 e.symm) (fun y hy e => (y8 y hy).2.2.2.1 e.symm) hbt
  rw [q_getR (k := 3) o3 rfl, Option.bind_some, q_obj h93, Option.bind_some]
  obtain ⟨w4, g4, b4', F4⟩ := hbo3.begin h93
  rw [g4, q_call, q_kV]
  have o4 : qCo w4 rd := F4.at o3 (by decide)
  have hbf4 : qB w4 12 rf 20000 nf Lf ff := hbf3.keep (F4.2.1 12 (by decide)) (F4.2.1 rf (by omega))
  have hbt4 : qB w4 14 rt 20000 nt Lt ft := hbt3.keep (F4.2.1 14 (by decide)) (F4.2.1 rt (by omega))
  rw [q_getR (k := 4) o4 rfl, Option.bind_some]
  obtain ⟨w5, g5, b5, F5⟩ := hbf4.zero
  rw [g5, Option.bind_some]
  have o5 : qCo w5 rd := F5.at o4 (by decide)
  have hbt5 : qB w5 14 rt 20000 nt Lt ft := hbt4.keep (F5.2.1 14 (by decide)) (F5.2.1 rt (by omega))
  rw [q_getR (k := 5) o5 rfl, Option.bind_some]
  obtain ⟨w6, g6, b6, F6⟩ := hbt5.zero
  rw [g6, Option.bind_some]
  have o6 : qCo w6 rd := F6.at o5 (by decide)
  have k6 : ∀ x, x ≠ 10 → x ≠ 12 → x ≠ 14 → w6.1[x]? = w3.1[x]? := fun x a b c => by rw [F6.2.1 x c, F5.2.1 x b, F4.2.1 x a]
  have hS6 : qS w6 16 tr hr szr dpr nmr syr spr := hSr.keep (fun x a b => by rw [k6 x (by omega) (by omega) (by omega), st x (by omega) (by omega) (by omega)])
  have hR6 : qRd w6 co fr en lc cnt pa he r4 n4 r6 n6 L4 L6 f4 f6 := hR.keep (fun x hx => by
    rcases hx with hx | hx | hx
    · rw [k6 x (by omega) (by omega) (by omega), st x (by omega) (by omega) (by omega)]
    · subst hx
      rw [k6 x (by omega) (by omega) (by omega), row x (q_lt_len hR.2.1.2.1) (by omega) (by omega) (by omega) (fun y hy e => (y7 y hy).2.2.2.2.1 e.symm) (fun y hy e => (y8 y hy).2.2.2.2.1 e.symm)]
    · subst hx
      rw [k6 x (by omega) (by omega) (by omega), row x (q_lt_len hR.2.2.1.2.1) (by omega) (by omega) (by omega) (fun y hy e => (y7 y hy).2.2.2.2.2 e.symm) (fun y hy e => (y8 y hy).2.2.2.2.2 e.symm)])
  rw [q_obj o6, Option.bind_some]
  obtain ⟨w7, pa', syr', spr', g7, o7', R7, S7, K7, c7, l7, -⟩ := qW_forgetReading o6 hR6 hS6
  rw [g7, q_call, q_kV]
  have kk : ∀ x, x ≠ 0 → (x < 16 ∨ 37 ≤ x) → x ≠ 10 → x ≠ 12 → x ≠ 14 → w7.1[x]? = w3.1[x]? := fun x a b c d e => by rw [K7 x a b, k6 x c d e]
  have sS : qS w7 1 tw th (upd (upd (upd sz 0 tw) 1 th) 2 1) (q_all8 dp 4 0) (q_rst nm 7 4) sy' sp' := s1.keep (fun x a b => by rw [kk x (by omega) (by omega) (by omega) (by omega) (by omega), s3 x (by omega) (by omega) (by omega), s2 x (by omega) (by omega) (by omega)])
  have e7lt : ∀ y : Nat, .ref y = e7 → y < w1.1.length := fun y hy => by
    obtain ⟨m', -, -, -, hm'⟩ := h71
    rcases hm' with ⟨x1, -⟩ | ⟨r, n, f, x1, hr, -⟩
    · rw [x1] at hy; cases hy
    · rw [x1] at hy
      cases hy
      exact q_lt_len hr
  have f7' : qL w7 7 e7 [] := l2.keep (fun y hy => by
    rcases hy with h | h | h
    · subst h
      rw [kk 7 (by omega) (by omega) (by omega) (by omega) (by omega), s3 7 (by omega) (by omega) (by omega)]
    · have a1 := y7 y h
      rw [kk y (by omega) (by omega) (by omega) (by omega) (by omega), k3 y (by have := e7lt y h; omega) (by omega) (fun y' hy' e => y78 y h (by rw [e]; exact hy'))]
    · exact absurd h (by simp))
  have f8' : qL w7 8 e8 [] := l3.keep (fun y hy => by
    rcases hy with h | h | h
    · subst h
      rw [kk 8 (by omega) (by omega) (by omega) (by omega) (by omega)]
    · have a1 := y8 y h
      rw [kk y (by omega) (by omega) (by omega) (by omega) (by omega)]
    · exact absurd h (by simp))
  refine ⟨w7, sy', sp', syr', spr', pa', rfl, ⟨o7', sS, f7', f8', ?_, ?_, ?_, ?_, S7, R7, hD0⟩, t1, fun x hx hy => ?_, ?_, ?_⟩
  · rw [kk 9 (by omega) (by omega) (by omega) (by omega) (by omega), h93]
  · refine b4'.keep ?_ ?_
    · rw [K7 10 (by omega) (by omega), F6.2.1 10 (by decide), F5.2.1 10 (by decide)]
    · rw [K7 ro (by omega) (by omega), F6.2.1 ro (by omega), F5.2.1 ro (by omega)]
  · refine b5.keep ?_ ?_
    · rw [K7 12 (by omega) (by omega), F6.2.1 12 (by decide)]
    · rw [K7 rf (by omega) (by omega), F6.2.1 rf (by omega)]
  · refine b6.keep ?_ ?_
    · rw [K7 14 (by omega) (by omega)]
    · rw [K7 rt (by omega) (by omega)]
  · rw [kk x (by omega) (by omega) (by omega) (by omega) (by omega)]
    by_cases hlt : x < w.1.length
    · exact row x hlt (by omega) (by omega) (by omega) (fun y h => hy y (Or.inl h)) (fun y h => hy y (Or.inr h))
    · rw [List.getElem?_eq_none (by omega), List.getElem?_eq_none (by omega)]
  · rw [c7, F6.2.2, F5.2.2, F4.2.2, c3, c2, F1.2.1]
  · rw [l7, F6.1, F5.1, F4.1, n3', n2', len1]
end
/-- the start, in the words of the methods' rows -/
theorem q_near_b (x : Int32) : 1 ≤ (q_near x).toInt ∧ (q_near x).toInt ≤ 2000 := by
  have e1 : (1 : Int32).toInt = 1 := rfl
  have e2 : (2000 : Int32).toInt = 2000 := rfl
  unfold q_near
  by_cases h : 1 ≤ x
  · rw [if_pos h]
    rw [q_lei] at h
    by_cases h2 : x ≤ 2000
    · rw [if_pos h2]
      rw [q_lei] at h2
      omega
    · rw [if_neg h2]
      omega
  · rw [if_neg h]
    omega
theorem q_mi_self {x : Int} (h : 1 ≤ x) : q_mi x x = 1 := by
  unfold q_mi
  have h1 : 1 ≤ (x + x - 1) / x := (Int.le_ediv_iff_mul_le (by omega)).mpr (by omega)
  have h2 : (x + x - 1) / x < 2 := Int.ediv_lt_of_lt_mul (by omega) (by omega)
  omega
theorem q_rst_at (j : Nat) : q_rst (fun _ => 0) 7 4 j = if j = 0 then 0 else if j = 1 then 1 else if j = 2 then 5 else if j = 3 then 4 else if j = 4 then 1 else if j = 5 then 8 else if j = 6 then 2 else 0 := by
  have : q_rst (fun _ => 0) 7 4 = upd (upd (upd (upd (upd (upd (upd (fun _ => 0) 0 0) 1 1) 2 5) 3 4) 4 1) 5 8) 6 2 := rfl
  rw [this]
  unfold upd
  grind
theorem q_all8_at (j : Nat) : q_all8 (fun _ => 0) 4 0 j = if j < 4 then 8 else 0 := by
  have : q_all8 (fun _ => 0) 4 0 = upd (upd (upd (upd (fun _ => 0) 0 8) 1 8) 2 8) 3 8 := rfl
  rw [this]
  unfold upd
  grind
theorem q_st0_R {w : PW} {x y : Int32} (hx : 1 ≤ x.toInt ∧ x.toInt ≤ 2000) (hy : 1 ≤ y.toInt ∧ y.toInt ≤ 2000) {g : Nat → Nat → Int32} (hg : q_bgn (fun _ _ => 0) g x y 0) {sy sp : Nat → Int32} (hs : ∀ j, j < 125 → sy j = (if j = 0 then 1 else 0) ∧ sp j = (if j = 0 then 1 else 0)) : qR x y (upd (upd (upd (fun _ => 0) 0 x) 1 y) 2 1) (q_all8 (fun _ => 0) 4 0) (q_rst (fun _ => 0) 7 4) sy sp g := by
  obtain ⟨g1, g2, g3, g4, g5, g6⟩ := hg
  refine ⟨⟨?_, ?_, ?_, ?_, ?_⟩, fun i hi => ?_, fun s hs' => ?_, fun s k hs' h4 h10 => ?_, ?_, ?_⟩
  · rw [g2]; rfl
  · rw [g2]; rfl
  · rw [g2]; rfl
  · rw [g2]; rfl
  · rw [g2]; rfl
  · rw [q_all8_at, if_pos hi, g3]
    simp [hi]
  · rw [g4, g5, (hs s hs').1, (hs s hs').2]
    simp [hs']
  · rw [q_rst_at, g6]
    by_cases h0 : s = 0
    · subst h0
      have : k = 4 ∨ k = 5 ∨ k = 6 ∨ k = 7 ∨ k = 8 ∨ k = 9 ∨ k = 10 := by omega
      rcases this with e | e | e | e | e | e | e <;> subst e <;> rfl
    · have h7 : ∀ j, j ≤ 6 → ¬ 7 * s + k - 4 = j := fun j hj => by omega
      have h11 : ∀ j, j ≤ 10 → ¬ 11 * s + k = 11 * 0 + j := fun j hj => by omega
      rw [if_neg (h7 0 (by omega)), if_neg (h7 1 (by omega)), if_neg (h7 2 (by omega)), if_neg (h7 3 (by omega)), if_neg (h7 4 (by omega)), if_neg (h7 5 (by omega)), if_neg (h7 6 (by omega)), if_neg (h11 4 (by omega)), if_neg (h11 5 (by omega)), if_neg (h11 6 (by omega)), if_neg (h11 7 (by omega)), if_neg (h11 8 (by omega)), if_neg (h11 9 (by omega)), if_neg (h11 10 (by omega))]
  · show 1 ≤ x.toInt ∧ x.toInt ≤ 2000 ∧ 1 ≤ y.toInt ∧ y.toInt ≤ 2000 ∧ 1 ≤ (1 : Int32).toInt ∧ (1 : Int32).toInt ≤ 4 ∧ 1 ≤ x.toInt ∧ x.toInt ≤ 2000 ∧ 1 ≤ y.toInt ∧ y.toInt ≤ 2000
    have e1 : (1 : Int32).toInt = 1 := rfl
    omega
  · show q_mi x.toInt x.toInt * q_mi y.toInt y.toInt ≤ 24
    rw [q_mi_self hx.1, q_mi_self hy.1]
    decide
/-- the start for one call -/
def q_one (w : PW) (x y : Int32) (sy sp : Nat → Int32) (z : Nat → Int32) (g : Nat → Nat → Int32) : Prop :=
  qA0 w 0 x y (upd (upd (upd (fun _ => 0) 0 x) 1 y) 2 1) (q_all8 (fun _ => 0) 4 0) (q_rst (fun _ => 0) 7 4) sy sp (.retAddr 3) (.retAddr 3) [] [] 11 32 13 32 15 32 [] [] [] (fun _ => 0) (fun _ => 0) (fun _ => 0) 1 1 (fun _ => 0) (fun _ => 0) (fun _ => 0) (fun _ => 0) (fun _ => 0) (-1) 0 0 0 0 (fun _ _ => 0) 0 24 8 26 8 [] [] (fun _ => 0) (fun _ => 0) ∧
  qM w z g ∧ qR x y (upd (upd (upd (fun _ => 0) 0 x) 1 y) 2 1) (q_all8 (fun _ => 0) 4 0) (q_rst (fun _ => 0) 7 4) sy sp g ∧ (∀ k, z k = if k = 1 then x else if k = 2 then y else 0) ∧ w.1[66]? = some (.inl (3, 1, .inr (.inl fun _ => 0))) ∧ w.1.length = 67 ∧ w.2.1 = 67 ∧ w.2.2 = 108568
theorem q_one_of {w : PW} {x y : Int32} (hx : 1 ≤ x.toInt ∧ x.toInt ≤ 2000) (hy : 1 ≤ y.toInt ∧ y.toInt ≤ 2000) (h : q_st0 w x y) : ∃ sy sp z g, q_one w x y sy sp z g := by
  obtain ⟨l, c1, c2, h0, ⟨nm, sy, sp, hs, hnm, hsy⟩, h7, h8, h9, hb, hf, ht, hr, h22, hn4, hn6, h27, h28, h29, h34, h35, h36, ⟨z, g, hM, hg, hz⟩, h66⟩ := h
  subst hnm
  have hN : ∀ y : Nat, ¬ Value.ref y = .retAddr 3 := fun y hy => by cases hy
  have hD : qD 11 13 15 24 26 (.retAddr 3) (.retAddr 3) := by
    refine ⟨⟨Or.inl rfl, Or.inl rfl, Or.inl rfl, Or.inl rfl, Or.inl rfl⟩, ?_, ?_, ?_, ?_⟩
    · decide
    · exact fun y hy => absurd hy (hN y)
    · exact fun y hy => absurd hy (hN y)
    · exact fun y hy => absurd hy (hN y)
  refine ⟨sy, sp, z, g, ⟨h0, hs, ⟨0, h7, by simp, by simp, Or.inl ⟨rfl, rfl⟩⟩, ⟨0, h8, by simp, by simp, Or.inl ⟨rfl, rfl⟩⟩, h9, hb, hf, ht, hr, ⟨h22, hn4, hn6, h27, ⟨h28, fun k k1 k2 => ?_⟩, Or.inl rfl, Or.inl rfl, by decide⟩, hD⟩, hM, q_st0_R (w := w) hx hy hg hsy, hz, h66, l, c1, c2⟩
  by_cases e34 : k = 34
  · subst e34; exact h34
  · by_cases e35 : k = 35
    · subst e35; exact h35
    · by_cases e36 : k = 36
      · subst e36; exact h36
      · unfold rT rL
        rw [if_neg e34, if_neg e35, if_neg e36]
        exact h29 k k1 (by omega)
def fD_thrown (l0 : Nat) (w : PW) : PX := (p_getI w l0 10 0).bind fun v1 => some (.inl (some (.int v1)), w)
theorem o_astJ {w : PW} {f : Nat → Int64} (h : w.1[66]? = some (.inl (3, 1, .inr (.inl f)))) (x : Int64) : ∃ w', p_astJ w 66 0 x = some w' ∧ w'.1[66]? = some (.inl (3, 1, .inr (.inl (vp_updL f 0 x)))) ∧ qE 66 w w' := by
  refine ⟨(w.1.set 66 (.inl (3, 1, .inr (.inl (vp_updL f 0 x)))), w.2), ?_, q_set_self h, List.length_set, fun x hx => q_set_ne hx.symm, rfl⟩
  simp only [p_astJ, p_arrJ, h, if_true, Option.bind_some]
  rw [if_neg (by decide)]
  rfl
theorem q_aldJ {w : PW} {f : Nat → Int64} (h : w.1[66]? = some (.inl (3, 1, .inr (.inl f)))) : p_aldJ w 66 0 = some (f 0) := by
  simp only [p_aldJ, p_arrJ, h, if_true, Option.bind_some]
  rw [if_neg (by decide)]
  rfl
section
variable {k : Nat → Nat → Nat → Int32 → PW → PX}
/-- what the store of the answer leaves -/
def qJ (v : Int32) (w w' : PW) : Prop := qE 66 w w' ∧ w'.1[66]? = some (.inl (3, 1, .inr (.inl fun j => if j = 0 then Int32.toInt64 v else 0)))
theorem o_J {w : PW} (h : w.1[66]? = some (.inl (3, 1, .inr (.inl fun _ => 0)))) (v : Int32) : ∃ w', p_astJ w 66 0 (Int32.toInt64 v) = some w' ∧ qJ v w w' := by
  obtain ⟨w', g1, s1, F1⟩ := o_astJ h (Int32.toInt64 v)
  exact ⟨w', g1, F1, s1⟩
theorem qJ.ald {v : Int32} {w w' w2 : PW} (h : qJ v w w') (hk : w2.1[66]? = w'.1[66]?) : p_aldJ w2 66 0 = some (Int32.toInt64 v) := by
  have := q_aldJ (w := w2) (f := fun j => if j = 0 then Int32.toInt64 v else 0) (by rw [hk, h.2])
  exact this
theorem qM.thr {w : PW} {z : Nat → Int32} {g : Nat → Nat → Int32} (h : qM w z g) : fD_thrown 37 w = some (.inl (some (.int (z 0))), w) := by
  unfold fD_thrown
  rw [h.I 0 rfl, Option.bind_some]
theorem qT.M {w w' : PW} {z : Nat → Int32} {g : Nat → Nat → Int32} (h : qT w w') (hM : qM w z g) : qM w' z g := hM.keep (fun x _ _ => by rw [h.1])
variable {w : PW} {x y : Int32} {sy sp : Nat → Int32} {z : Nat → Int32} {g : Nat → Nat → Int32} {xs : Nat → Int32}
theorem st_y01 {sy : Nat → Int32} {w : PW} {b : Nat} {tw th : Int32} {sz dp nm sp : Nat → Int32} (h : qS w b tw th sz dp nm sy sp) : (∀ i, sy i = 0 ∨ sy i = 1) ∧ ∀ i, sp i = 0 ∨ sp i = 1 := h.2.2.2.2.2.2
end

section
variable {k : Nat → Nat → Nat → Int32 → PW → PX} {w : PW} {x y : Int32} {sy sp : Nat → Int32} {z : Nat → Int32} {g : Nat → Nat → Int32} {xs : Nat → Int32}
theorem lw_x1 {E : String} {w1 : PW} {K : Option Value → PW → PX} {K1 : PW → PX} {t : List (String × (PW → PX))} : p_callX (some (.inr E, w1)) K ((E, K1) :: t) = K1 w1 := by
  show (if E = E then K1 w1 else p_kX t E w1) = _
  rw [if_pos rfl]
theorem lw_x2 {E E1 : String} {w1 : PW} {K : Option Value → PW → PX} {K1 : PW → PX} {t : List (String × (PW → PX))} (h : ¬ E = E1) : p_callX (some (.inr E, w1)) K ((E1, K1) :: t) = p_callX (some (.inr E, w1)) K t := by
  show (if E = E1 then K1 w1 else p_kX t E w1) = p_kX t E w1
  rw [if_neg h]
theorem lw_x0 {v : Int32} {w1 : PW} {K : Int32 → PW → PX} {t : List (String × (PW → PX))} : p_callX (some (.inl (some (.int v)), w1)) (p_kI K) t = K v w1 := rfl
theorem q_ret3 (y : Nat) : ¬ Value.ref y = .retAddr 3 := fun hy => by cases hy
theorem q_tc_v (nt : Int) (n : Nat) (t : Int32) : q_tc nt n t = 0 ∨ q_tc nt n t = 1 ∨ q_tc nt n t = 2 := by
  unfold q_tc
  (repeat' split) <;> simp
theorem q_bc_v (n : Nat) (t : Int32) : q_bc n t = 0 ∨ q_bc n t = 1 ∨ q_bc n t = 2 := by
  unfold q_bc
  (repeat' split) <;> simp
theorem q_fdc_v (n : Nat) (t : Int32) : q_fdc n t = 0 ∨ q_fdc n t = 1 ∨ q_fdc n t = 2 := by
  unfold q_fdc
  (repeat' split) <;> simp
end

theorem q_l37 : True := trivial
section
variable {w : PW} {z : Nat → Int32} {g : Nat → Nat → Int32} {rd : Int32} {e : Value} {P : List Nat}
/-- packet in general: the reference -/
def q_pkc (n : Nat) (pk : Nat → Nat) (p : Int32) : Int32 := if ¬ (0 ≤ p.toInt ∧ p.toInt < n) then 1 else if 20 ≤ pk p.toInt.toNat then 2 else 0
theorem q_ne_of {m n : Nat} (hm : m < 2147483648) (hn : n < 2147483648) (h : m ≠ n) : ¬ Int32.ofNat m = Int32.ofNat n := fun e => by
  have := congrArg Int32.toNatClampNeg e
  rw [q_tno hm, q_tno hn] at this
  exact h this
theorem qM.pk29 (h : qM w z g) (p s0 : Int32) (hs : ¬ s0 ≤ 0) : ∃ w', fD_packet_29 37 p s0 37 w = some (.inl (some (.int 0)), w') ∧ qM w' (upd z 0 s0) g ∧ qI 37 66 w w' := by
  obtain ⟨w1, g1, q1, F1⟩ := h.put 0 s0 (by omega) rfl
  unfold fD_packet_29
  rw [g1, Option.bind_some, q1.I 0 rfl, Option.bind_some, show upd z 0 s0 0 = s0 from rfl, if_neg hs]
  exact ⟨w1, rfl, q1, F1⟩
theorem qM.packet (h : qM w z g) (n : Nat) (hz : z 8 = Int32.ofNat n) (hn : n ≤ 40) (pk : Nat → Nat) (hpk : ∀ k, k < n → g 44 k = Int32.ofNat (pk k) ∧ pk k ≤ 20) (p : Int32) :
    ∃ w' b, fD_packet 37 p w = some (.inl (some (.int b)), w') ∧ qI 37 66 w w' ∧ (¬ q_pkc n pk p = 0 → qM w' (upd z 0 (q_pkc n pk p)) g) ∧ (q_pkc n pk p = 0 → b = Int32.ofNat (pk p.toInt.toNat + 1) ∧ qM w' (upd z 0 0) (ug (ug g 45 (20 * p.toInt.toNat + pk p.toInt.toNat) 0) 44 p.toInt.toNat (Int32.ofNat (pk p.toInt.toNat + 1)))) := by
  unfold fD_packet q_pkc
  rw [h.obj, Option.bind_some, h.isPart n hz hn, q_call, q_kI]
  by_cases hp : 0 ≤ p.toInt ∧ p.toInt < n
  · have ep := q_on p hp.1
    generalize hj : p.toInt.toNat = j at *
    have hjn : j < n := by omega
    obtain ⟨hk1, hk2⟩ := hpk j hjn
    have l44 : p_ald w 44 0 p = some (Int32.ofNat (pk j)) := by rw [ep, h.ldn 44 0 j rfl (by omega) (by omega) (by show j < 40; omega) (by decide), hk1]
    rw [if_pos hp, if_pos (show ¬ (1 : Int32) = 0 by decide), if_neg (not_not_intro hp), h.R 10 44 rfl, Option.bind_some, l44, Option.bind_some]
    by_cases hf : 20 ≤ pk j
    · have e20 : pk j = 20 := by omega
      rw [e20, if_neg (show ¬ ¬ Int32.ofNat 20 = 20 from not_not_intro rfl), if_pos (by omega)]
      obtain ⟨w1, g1, q1, F1⟩ := h.pk29 p 2 (by decide)
      exact ⟨w1, 0, g1, F1, fun _ => q1, fun e => absurd e (by decide)⟩
    · rw [if_pos (show ¬ Int32.ofNat (pk j) = 20 from q_ne_of (m := pk j) (n := 20) (by omega) (by omega) (by omega)), if_neg hf]
      obtain ⟨w1, g1, q1, F1⟩ := h.put 0 0 (by omega) rfl
      have l44' : p_ald w1 44 0 p = some (Int32.ofNat (pk j)) := by rw [ep, q1.ldn 44 0 j rfl (by omega) (by omega) (by show j < 40; omega) (by decide), hk1]
      have ei : (20 : Int32) * p + Int32.ofNat (pk j) = Int32.ofNat (20 * j + pk j) := by
        rw [ep, show (20 : Int32) * Int32.ofNat j = Int32.ofNat (20 * j) from (Int32.ofNat_mul 20 j).symm, ← Int32.ofNat_add]
      unfold fD_packet_29
      rw [g1, Option.bind_some, q1.I 0 rfl, Option.bind_some, show upd z 0 0 0 = 0 from rfl, if_pos (by decide), q1.R 11 45 rfl, Option.bind_some, q1.R 10 44 rfl, Option.bind_some, l44', Option.bind_some, ei]
      obtain ⟨w2, g2, q2, F2⟩ := q1.stn 45 0 (20 * j + pk j) 0 rfl (by omega) (by omega) (by show _ < 800; omega) (by decide)
      have l44'' : p_ald w2 44 0 p = some (Int32.ofNat (pk j)) := by rw [ep, q2.ldn 44 0 j rfl (by omega) (by omega) (by show j < 40; omega) (by decide), ug_ne _ _ _ (by decide), hk1]
      rw [g2, Option.bind_some, q2.R 10 44 rfl, Option.bind_some, l44'', Option.bind_some, show Int32.ofNat (pk j) + 1 = Int32.ofNat (pk j + 1) from (Int32.ofNat_add _ 1).symm]
      obtain ⟨w3, g3, q3, F3⟩ := q2.stn 44 0 j (Int32.ofNat (pk j + 1)) rfl (by omega) (by omega) (by show j < 40; omega) (by decide)
      rw [← ep] at g3
      rw [g3, Option.bind_some, q3.R 10 44 rfl, Option.bind_some]
      have l3 : p_ald w3 44 0 p = some (Int32.ofNat (pk j + 1)) := by
        rw [ep, q3.ldn 44 0 j rfl (by omega) (by omega) (by show j < 40; omega) (by decide), ug_self]
        show some (upd _ j _ j) = _
        unfold upd
        rw [if_pos rfl]
      rw [l3, Option.bind_some]
      exact ⟨w3, _, rfl, (F1.tr F2).tr F3, fun hh => absurd rfl hh, fun _ => ⟨rfl, q3⟩⟩
  · rw [if_neg hp, if_neg (show ¬ ¬ (0 : Int32) = 0 from not_not_intro rfl), if_pos hp]
    obtain ⟨w1, g1, q1, F1⟩ := h.pk29 p 1 (by decide)
    exact ⟨w1, 0, g1, F1, fun _ => q1, fun e => absurd e (by decide)⟩
/-- byteOf in general: the reference -/
def q_boc (n : Nat) (pk ps : Nat → Nat) (p b : Int32) : Int32 := if ¬ (0 ≤ p.toInt ∧ p.toInt < n) then 1 else if pk p.toInt.toNat = 0 then 2 else if ¬ (0 ≤ b.toInt ∧ b.toInt ≤ 255) then 3 else if 300 ≤ ps p.toInt.toNat then 4 else 0
theorem qM.bo59 (h : qM w z g) (p b s0 : Int32) (hs : ¬ s0 ≤ 0) : ∃ w', fD_byteOf_59 37 p b s0 37 w = some (.inl (some (.int 0)), w') ∧ qM w' (upd z 0 s0) g ∧ qI 37 66 w w' := by
  obtain ⟨w1, g1, q1, F1⟩ := h.put 0 s0 (by omega) rfl
  unfold fD_byteOf_59
  rw [g1, Option.bind_some, q1.I 0 rfl, Option.bind_some, show upd z 0 s0 0 = s0 from rfl, if_neg hs]
  exact ⟨w1, rfl, q1, F1⟩
theorem qM.byteOf (h : qM w z g) (n : Nat) (hz : z 8 = Int32.ofNat n) (hn : n ≤ 40) (pk ps : Nat → Nat) (hpk : ∀ k, k < n → g 44 k = Int32.ofNat (pk k) ∧ pk k ≤ 20 ∧ g 46 k = Int32.ofNat (ps k) ∧ ps k ≤ 300) (p b : Int32) :
    ∃ w' v, fD_byteOf 37 p b w = some (.inl (some (.int v)), w') ∧ qI 37 66 w w' ∧ (¬ q_boc n pk ps p b = 0 → qM w' (upd z 0 (q_boc n pk ps p b)) g) ∧ (q_boc n pk ps p b = 0 → v = Int32.ofNat (ps p.toInt.toNat + 1) ∧ qM w' (upd z 0 0) (ug (ug (ug g 47 (300 * p.toInt.toNat + ps p.toInt.toNat) b) 46 p.toInt.toNat (Int32.ofNat (ps p.toInt.toNat + 1))) 45 (20 * p.toInt.toNat + pk p.toInt.toNat - 1) (g 45 (20 * p.toInt.toNat + pk p.toInt.toNat - 1) + 1))) := by
  unfold fD_byteOf q_boc
  rw [h.obj, Option.bind_some, h.isPart n hz hn, q_call, q_kI]
  by_cases hp : 0 ≤ p.toInt ∧ p.toInt < n
  · have ep := q_on p hp.1
    generalize hj : p.toInt.toNat = j at *
    have hjn : j < n := by omega
    obtain ⟨hk1, hk2, hk3, hk4⟩ := hpk j hjn
    have l44 : p_ald w 44 0 p = some (Int32.ofNat (pk j)) := by rw [ep, h.ldn 44 0 j rfl (by omega) (by omega) (by show j < 40; omega) (by decide), hk1]
    have l46 : p_ald w 46 0 p = some (Int32.ofNat (ps j)) := by rw [ep, h.ldn 46 0 j rfl (by omega) (by omega) (by show j < 40; omega) (by decide), hk3]
    rw [if_pos hp, if_pos (show ¬ (1 : Int32) = 0 by decide), if_neg (not_not_intro hp), h.R 10 44 rfl, Option.bind_some, l44, Option.bind_some]
    by_cases h0 : pk j = 0
    · rw [if_neg (not_not_intro (show Int32.ofNat (pk j) = 0 by rw [h0]; rfl)), if_pos h0]
      obtain ⟨w1, g1, q1, F1⟩ := h.bo59 p b 2 (by decide)
      exact ⟨w1, 0, g1, F1, fun _ => q1, fun e => absurd e (by decide)⟩
    · rw [if_pos (show ¬ Int32.ofNat (pk j) = 0 from q_ne_of (m := pk j) (n := 0) (by omega) (by omega) h0), if_neg h0, q_in, q_call, q_kI, q_64, q_e0, q_e255]
      by_cases hb : 0 ≤ b.toInt ∧ b.toInt ≤ 255
      · rw [if_pos hb, if_pos (show ¬ (1 : Int32) = 0 by decide), if_neg (not_not_intro hb), h.R 12 46 rfl, Option.bind_some, l46, Option.bind_some]
        by_cases hf : 300 ≤ ps j
        · have e300 : ps j = 300 := by omega
          rw [e300, if_neg (show ¬ ¬ Int32.ofNat 300 = 300 from not_not_intro rfl), if_pos (by omega)]
          obtain ⟨w1, g1, q1, F1⟩ := h.bo59 p b 4 (by decide)
          exact ⟨w1, 0, g1, F1, fun _ => q1, fun e => absurd e (by decide)⟩
        · rw [if_pos (show ¬ Int32.ofNat (ps j) = 300 from q_ne_of (m := ps j) (n := 300) (by omega) (by omega) (by omega)), if_neg hf]
          obtain ⟨w1, g1, q1, F1⟩ := h.put 0 0 (by omega) rfl
          have m46 : p_ald w1 46 0 p = some (Int32.ofNat (ps j)) := by rw [ep, q1.ldn 46 0 j rfl (by omega) (by omega) (by show j < 40; omega) (by decide), hk3]
          have ei : (300 : Int32) * p + Int32.ofNat (ps j) = Int32.ofNat (300 * j + ps j) := by
            rw [ep, show (300 : Int32) * Int32.ofNat j = Int32.ofNat (300 * j) from (Int32.ofNat_mul 300 j).symm, ← Int32.ofNat_add]
          have ek : (20 : Int32) * p + Int32.ofNat (pk j) - 1 = Int32.ofNat (20 * j + pk j - 1) := by
            rw [ep, show (20 : Int32) * Int32.ofNat j = Int32.ofNat (20 * j) from (Int32.ofNat_mul 20 j).symm, ← Int32.ofNat_add, show 20 * j + pk j = (20 * j + pk j - 1) + 1 by omega, show Int32.ofNat (20 * j + pk j - 1 + 1) = Int32.ofNat (20 * j + pk j - 1) + 1 from Int32.ofNat_add _ 1, Nat.add_sub_cancel]
            grind
          unfold fD_byteOf_59
          rw [g1, Option.bind_some, q1.I 0 rfl, Option.bind_some, show upd z 0 0 0 = 0 from rfl, if_pos (by decide), q1.R 13 47 rfl, Option.bind_some, q1.R 12 46 rfl, Option.bind_some, m46, Option.bind_some, ei]
          obtain ⟨w2, g2, q2, F2⟩ := q1.stn 47 0 (300 * j + ps j) b rfl (by omega) (by omega) (by show _ < 12000; omega) (by decide)
          have m46' : p_ald w2 46 0 p = some (Int32.ofNat (ps j)) := by rw [ep, q2.ldn 46 0 j rfl (by omega) (by omega) (by show j < 40; omega) (by decide), ug_ne _ _ _ (by decide), hk3]
          rw [g2, Option.bind_some, q2.R 12 46 rfl, Option.bind_some, m46', Option.bind_some, show Int32.ofNat (ps j) + 1 = Int32.ofNat (ps j + 1) from (Int32.ofNat_add _ 1).symm]
          obtain ⟨w3, g3, q3, F3⟩ := q2.stn 46 0 j (Int32.ofNat (ps j + 1)) rfl (by omega) (by omega) (by show j < 40; omega) (by decide)
          rw [← ep] at g3
          have m44 : p_ald w3 44 0 p = some (Int32.ofNat (pk j)) := by rw [ep, q3.ldn 44 0 j rfl (by omega) (by omega) (by show j < 40; omega) (by decide), ug_ne _ _ _ (by decide), ug_ne _ _ _ (by decide), hk1]
          have m45 : p_ald w3 45 0 (Int32.ofNat (20 * j + pk j - 1)) = some (g 45 (20 * j + pk j - 1)) := by rw [q3.ldn 45 0 (20 * j + pk j - 1) rfl (by omega) (by omega) (by show _ < 800; omega) (by decide), ug_ne _ _ _ (by decide), ug_ne _ _ _ (by decide)]
          rw [g3, Option.bind_some, q3.R 11 45 rfl, Option.bind_some, q3.R 10 44 rfl, Option.bind_some, m44, Option.bind_some, ek, m45, Option.bind_some]
          obtain ⟨w4, g4, q4, F4⟩ := q3.stn 45 0 (20 * j + pk j - 1) (g 45 (20 * j + pk j - 1) + 1) rfl (by omega) (by omega) (by show _ < 800; omega) (by decide)
          rw [g4, Option.bind_some, q4.R 12 46 rfl, Option.bind_some]
          have m46'' : p_ald w4 46 0 p = some (Int32.ofNat (ps j + 1)) := by
            rw [ep, q4.ldn 46 0 j rfl (by omega) (by omega) (by show j < 40; omega) (by decide), ug_ne _ _ _ (by decide), ug_self]
            show some (upd _ j _ j) = _
            unfold upd
            rw [if_pos rfl]
          rw [m46'', Option.bind_some]
          exact ⟨w4, _, rfl, ((F1.tr F2).tr F3).tr F4, fun hh => absurd rfl hh, fun _ => ⟨rfl, q4⟩⟩
      · rw [if_neg hb, if_neg (show ¬ ¬ (0 : Int32) = 0 from not_not_intro rfl), if_pos hb]
        obtain ⟨w1, g1, q1, F1⟩ := h.bo59 p b 3 (by decide)
        exact ⟨w1, 0, g1, F1, fun _ => q1, fun e => absurd e (by decide)⟩
  · rw [if_neg hp, if_neg (show ¬ ¬ (0 : Int32) = 0 from not_not_intro rfl), if_pos hp]
    obtain ⟨w1, g1, q1, F1⟩ := h.bo59 p b 1 (by decide)
    exact ⟨w1, 0, g1, F1, fun _ => q1, fun e => absurd e (by decide)⟩
/-- boxByte in general: the reference -/
def q_bbc (n : Nat) (bs : Nat → Nat) (p b : Int32) : Int32 := if ¬ (0 ≤ p.toInt ∧ p.toInt < n) then 1 else if ¬ (0 ≤ b.toInt ∧ b.toInt ≤ 255) then 2 else if 40 ≤ bs p.toInt.toNat then 3 else 0
theorem qM.bb53 (h : qM w z g) (p b s0 : Int32) (hs : ¬ s0 ≤ 0) : ∃ w', fD_boxByte_53 37 p b s0 37 w = some (.inl (some (.int 0)), w') ∧ qM w' (upd z 0 s0) g ∧ qI 37 66 w w' := by
  obtain ⟨w1, g1, q1, F1⟩ := h.put 0 s0 (by omega) rfl
  unfold fD_boxByte_53
  rw [g1, Option.bind_some, q1.I 0 rfl, Option.bind_some, show upd z 0 s0 0 = s0 from rfl, if_neg hs]
  exact ⟨w1, rfl, q1, F1⟩
theorem qM.boxByte (h : qM w z g) (n : Nat) (hz : z 14 = Int32.ofNat n) (hn : n ≤ 8) (bs : Nat → Nat) (hbs : ∀ k, k < n → g 50 k = Int32.ofNat (bs k) ∧ bs k ≤ 40) (p b : Int32) :
    ∃ w' v, fD_boxByte 37 p b w = some (.inl (some (.int v)), w') ∧ qI 37 66 w w' ∧ (¬ q_bbc n bs p b = 0 → qM w' (upd z 0 (q_bbc n bs p b)) g) ∧ (q_bbc n bs p b = 0 → v = Int32.ofNat (bs p.toInt.toNat + 1) ∧ qM w' (upd z 0 0) (ug (ug g 51 (40 * p.toInt.toNat + bs p.toInt.toNat) b) 50 p.toInt.toNat (Int32.ofNat (bs p.toInt.toNat + 1)))) := by
  unfold fD_boxByte q_bbc
  rw [h.I 14 rfl, Option.bind_some, hz, q_in, q_call, q_kI, q_64, q_sub1 (by rw [q_ofi (by omega)]; omega), q_ofi (by omega), q_e0]
  by_cases hp : 0 ≤ p.toInt ∧ p.toInt < n
  · have ep := q_on p hp.1
    rw [if_pos (show 0 ≤ p.toInt ∧ p.toInt ≤ (n : Int) - 1 by omega), if_pos (show ¬ (1 : Int32) = 0 by decide), if_neg (not_not_intro hp), q_in, q_call, q_kI, q_64, q_e0, q_e255]
    generalize hj : p.toInt.toNat = j at *
    have hjn : j < n := by omega
    obtain ⟨hk3, hk4⟩ := hbs j hjn
    have l50 : p_ald w 50 0 p = some (Int32.ofNat (bs j)) := by rw [ep, h.ldn 50 0 j rfl (by omega) (by omega) (by show j < 8; omega) (by decide), hk3]
    by_cases hb : 0 ≤ b.toInt ∧ b.toInt ≤ 255
    · rw [if_pos hb, if_pos (show ¬ (1 : Int32) = 0 by decide), if_neg (not_not_intro hb), h.R 17 50 rfl, Option.bind_some, l50, Option.bind_some]
      by_cases hf : 40 ≤ bs j
      · have e40 : bs j = 40 := by omega
        rw [e40, if_neg (show ¬ ¬ Int32.ofNat 40 = 40 from not_not_intro rfl), if_pos (by omega)]
        obtain ⟨w1, g1, q1, F1⟩ := h.bb53 p b 3 (by decide)
        exact ⟨w1, 0, g1, F1, fun _ => q1, fun e => absurd e (by decide)⟩
      · rw [if_pos (show ¬ Int32.ofNat (bs j) = 40 from q_ne_of (m := bs j) (n := 40) (by omega) (by omega) (by omega)), if_neg hf]
        obtain ⟨w1, g1, q1, F1⟩ := h.put 0 0 (by omega) rfl
        have m50 : p_ald w1 50 0 p = some (Int32.ofNat (bs j)) := by rw [ep, q1.ldn 50 0 j rfl (by omega) (by omega) (by show j < 8; omega) (by decide), hk3]
        have ei : (40 : Int32) * p + Int32.ofNat (bs j) = Int32.ofNat (40 * j + bs j) := by
          rw [ep, show (40 : Int32) * Int32.ofNat j = Int32.ofNat (40 * j) from (Int32.ofNat_mul 40 j).symm, ← Int32.ofNat_add]
        unfold fD_boxByte_53
        rw [g1, Option.bind_some, q1.I 0 rfl, Option.bind_some, show upd z 0 0 0 = 0 from rfl, if_pos (by decide), q1.R 18 51 rfl, Option.bind_some, q1.R 17 50 rfl, Option.bind_some, m50, Option.bind_some, ei]
        obtain ⟨w2, g2, q2, F2⟩ := q1.stn 51 0 (40 * j + bs j) b rfl (by omega) (by omega) (by show _ < 320; omega) (by decide)
        have m50' : p_ald w2 50 0 p = some (Int32.ofNat (bs j)) := by rw [ep, q2.ldn 50 0 j rfl (by omega) (by omega) (by show j < 8; omega) (by decide), ug_ne _ _ _ (by decide), hk3]
        rw [g2, Option.bind_some, q2.R 17 50 rfl, Option.bind_some, m50', Option.bind_some, show Int32.ofNat (bs j) + 1 = Int32.ofNat (bs j + 1) from (Int32.ofNat_add _ 1).symm]
        obtain ⟨w3, g3, q3, F3⟩ := q2.stn 50 0 j (Int32.ofNat (bs j + 1)) rfl (by omega) (by omega) (by show j < 8; omega) (by decide)
        rw [← ep] at g3
        have m50'' : p_ald w3 50 0 p = some (Int32.ofNat (bs j + 1)) := by
          rw [ep, q3.ldn 50 0 j rfl (by omega) (by omega) (by show j < 8; omega) (by decide), ug_self]
          show some (upd _ j _ j) = _
          unfold upd
          rw [if_pos rfl]
        rw [g3, Option.bind_some, q3.R 17 50 rfl, Option.bind_some, m50'', Option.bind_some]
        exact ⟨w3, _, rfl, (F1.tr F2).tr F3, fun hh => absurd rfl hh, fun _ => ⟨rfl, q3⟩⟩
    · rw [if_neg hb, if_neg (show ¬ ¬ (0 : Int32) = 0 from not_not_intro rfl), if_pos hb]
      obtain ⟨w1, g1, q1, F1⟩ := h.bb53 p b 2 (by decide)
      exact ⟨w1, 0, g1, F1, fun _ => q1, fun e => absurd e (by decide)⟩
  · rw [if_neg (show ¬ (0 ≤ p.toInt ∧ p.toInt ≤ (n : Int) - 1) by omega), if_neg (show ¬ ¬ (0 : Int32) = 0 from not_not_intro rfl), if_pos hp]
    obtain ⟨w1, g1, q1, F1⟩ := h.bb53 p b 1 (by decide)
    exact ⟨w1, 0, g1, F1, fun _ => q1, fun e => absurd e (by decide)⟩
end
section
variable {w : PW} {rd : Int32} {e : Value} {P : List Nat}
theorem qL.keep2 {w' : PW} {a : Nat} (h : qL w a e P) (hk : ∀ y : Nat, (y = a ∨ .ref y = e) → w'.1[y]? = w.1[y]?) (he : ∀ x ∈ P, p_elt w' x = true) : qL w' a e P := by
  obtain ⟨m, ho, h2, h3, h4⟩ := h
  refine ⟨m, by rw [hk a (Or.inl rfl), ho], h2, he, ?_⟩
  rcases h4 with h4 | ⟨r, n, f, e1, hr, h5⟩
  · exact Or.inl h4
  · exact Or.inr ⟨r, n, f, e1, by rw [hk r (Or.inr (by rw [e1])), hr], h5⟩
/-- a part at x -/
def qP (w : PW) (x : Nat) (t b : Int32) (l a r n : Nat) (pk : Nat) (ln : Nat → Int32) (L : List Int32) (f : Nat → Int32) : Prop :=
  w.1[x]? = some (.inr (8, [.int t, .int b, .ref l, .ref a, .int (Int32.ofNat pk)])) ∧ w.1[l]? = some (.inl (0, 20, .inl ln)) ∧ qB w a r 300 n L f ∧ pk ≤ 20
theorem qP.keep {w' : PW} {x : Nat} {t b : Int32} {l a r n : Nat} {pk : Nat} {ln : Nat → Int32} {L : List Int32} {f : Nat → Int32} (h : qP w x t b l a r n pk ln L f) (hk : ∀ y, (y = x ∨ y = l ∨ y = a ∨ y = r) → w'.1[y]? = w.1[y]?) : qP w' x t b l a r n pk ln L f := by
  obtain ⟨h1, h2, h3, h4⟩ := h
  exact ⟨by rw [hk x (Or.inl rfl), h1], by rw [hk l (by simp), h2], h3.keep (hk a (by simp)) (hk r (by simp)), h4⟩
theorem q_lt_in {p : Int32} {n : Nat} (hn : n ≤ 20000) (h0 : 0 ≤ p.toInt) (h1 : p.toInt < n) : ¬ p < 0 ∧ p < Int32.ofNat n := by
  have e0 : (0 : Int32).toInt = 0 := rfl
  constructor
  · rw [q_lti]; omega
  · rw [q_lti, q_ofi (by omega)]; exact h1
theorem qW_packet (ho : qCo w rd) (hl : qL w 7 e P) (pk : Nat → Nat) (hP : ∀ (k x : Nat), P[k]? = some x → ∃ t b l a r n ln L f, qP w x t b l a r n (pk k) ln L f) (p : Int32) :
    (q_pkc P.length pk p = 1 → ∃ w', fW_packet 0 p w = some (.inr "java/lang/IndexOutOfBoundsException", w') ∧ qT w w') ∧
    (q_pkc P.length pk p = 2 → ∃ w', fW_packet 0 p w = some (.inr "java/lang/UnsupportedOperationException", w') ∧ qT w w') ∧
    (q_pkc P.length pk p = 0 → ∃ w' x t b l a, P[p.toInt.toNat]? = some x ∧ fW_packet 0 p w = some (.inl (some (.int (Int32.ofNat (pk p.toInt.toNat + 1)))), w') ∧ w.1[x]? = some (.inr (8, [.int t, .int b, .ref l, .ref a, .int (Int32.ofNat (pk p.toInt.toNat))])) ∧ w'.1[x]? = some (.inr (8, [.int t, .int b, .ref l, .ref a, .int (Int32.ofNat (pk p.toInt.toNat + 1))])) ∧ qE x w w') := by
  have h40 : P.length ≤ 40 := hl.choose_spec.2.1
  by_cases hp : 0 ≤ p.toInt ∧ p.toInt < P.length
  · have ep := q_on p hp.1
    obtain ⟨i0, i1⟩ := q_lt_in (by omega) hp.1 hp.2
    generalize hj : p.toInt.toNat = j at *
    obtain ⟨x0, hx⟩ : ∃ x0, P[j]? = some x0 := ⟨P[j]'(by omega), List.getElem?_eq_getElem (by omega)⟩
    obtain ⟨t, b, l, a, r, n, ln, L, f, h1, h2, h3, h4⟩ := hP j _ hx
    obtain ⟨fl, lo⟩ := hl.obj
    have esc : q_pkc P.length pk p = if 20 ≤ pk j then 2 else 0 := by
      unfold q_pkc
      rw [if_neg (not_not_intro hp), hj]
    have gt : fAL_get 7 p w = some (.inl (some (.ref x0)), w) := by rw [ep]; exact hl.get j _ hx
    unfold fW_packet
    rw [if_neg i0, q_getR (k := 1) ho rfl, Option.bind_some, lo, Option.bind_some, hl.size, q_call, q_kI, if_pos i1, q_getR (k := 1) ho rfl, Option.bind_some, lo, Option.bind_some, gt, q_call, q_kR, q_obj h1, Option.bind_some, q_getI (k := 4) h1 rfl, Option.bind_some]
    by_cases hf : 20 ≤ pk j
    · rw [esc, if_pos hf, if_neg (fun hh => by have := (q_lt (m := pk j) (n := 20) (by omega) (by omega)).mp hh; omega)]
      exact ⟨fun e => absurd e (by decide), fun _ => q_throw _ _, fun e => absurd e (by decide)⟩
    · rw [esc, if_neg hf, if_pos (show Int32.ofNat (pk j) < 20 from (q_lt (m := pk j) (n := 20) (by omega) (by omega)).mpr (by omega)), Option.bind_some]
      refine ⟨fun e => absurd e (by decide), fun e => absurd e (by decide), fun _ => ?_⟩
      rw [show Int32.ofNat (pk j) + 1 = Int32.ofNat (pk j + 1) from (Int32.ofNat_add _ 1).symm]
      obtain ⟨w1, g1, s1, F1⟩ := o_put (k := 4) h1 (by simp) (.int (Int32.ofNat (pk j + 1)))
      rw [g1, Option.bind_some, q_getI (k := 4) s1 rfl, Option.bind_some]
      exact ⟨w1, x0, t, b, l, a, hx, rfl, h1, s1, F1⟩
  · have esc : q_pkc P.length pk p = 1 := by
      unfold q_pkc
      rw [if_pos hp]
    rw [esc]
    exact ⟨fun _ => qW_packet1 ho hl p hp, fun e => absurd e (by decide), fun e => absurd e (by decide)⟩
theorem qB.full {a r mo n : Nat} {L : List Int32} {f : Nat → Int32} (h : qB w a r mo n L f) (hf : mo ≤ L.length) (b : Int32) : fBytes_append a b w = some (.inl (some (.int 0)), w) := by
  have hm := h.2.2.2.2.1
  have hl := h.2.2.2.1
  have hi0 : p_getI w a 2 2 = some (Int32.ofNat L.length) := q_getI h.o rfl
  have hi1 : p_getI w a 2 0 = some (Int32.ofNat mo) := q_getI h.o rfl
  unfold fBytes_append
  rw [hi0, Option.bind_some, hi1, Option.bind_some, if_neg (fun hh => by have := (q_lt (m := L.length) (n := mo) (by omega) (by omega)).mp hh; omega)]
  rfl
/-- a byte more in a part -/
theorem qP.grow {x : Nat} {t b0 : Int32} {l a r n : Nat} {pk : Nat} {ln : Nat → Int32} {L : List Int32} {f : Nat → Int32} (h : qP w x t b0 l a r n pk ln L f) (hpk : 1 ≤ pk) (hla : l ≠ a ∧ l ≠ r ∧ x ≠ a ∧ x ≠ r ∧ x ≠ l) (b : Int32) (hb : 0 ≤ b.toInt ∧ b.toInt ≤ 255) :
    (300 ≤ L.length → fTilePart_grow x b w = some (.inl (some (.int 0)), w)) ∧
    (L.length < 300 → ∃ w' r' n' f', fTilePart_grow x b w = some (.inl (some (.int 1)), w') ∧ qP w' x t b0 l a r' n' pk (upd ln (pk - 1) (ln (pk - 1) + 1)) (L ++ [b]) f' ∧ qF (fun y => y = a ∨ y = r ∨ y = l) w w' ∧ (r' = r ∨ w.1.length ≤ r') ∧ n ≤ n' ∧ w'.2.2 + 7 * n ≤ w.2.2 + 7 * n') := by
  obtain ⟨h1, h2, h3, h4⟩ := h
  have l1 : ¬ Int32.ofNat pk < 1 := fun hh => by have := (q_lt (m := pk) (n := 1) (by omega) (by omega)).mp hh; omega
  have l20 : ¬ 20 < Int32.ofNat pk := fun hh => by have := (q_lt (m := 20) (n := pk) (by omega) (by omega)).mp hh; omega
  unfold fTilePart_grow
  rw [q_getI (k := 4) h1 rfl, Option.bind_some, if_neg l1, Option.bind_some, if_neg l20, q_getR (k := 3) h1 rfl, Option.bind_some, q_obj h3.o, Option.bind_some]
  constructor
  · intro hf
    rw [h3.full hf b, q_call, q_kI, if_neg (show ¬ ¬ (0 : Int32) = 0 from not_not_intro rfl)]
    rfl
  · intro hf
    obtain ⟨v, w1, r', n', f', g1, hv, b1, F1, e1, n1, c1⟩ := h3.append b
    rw [if_pos hf] at hv
    subst hv
    unfold q_app at b1
    rw [if_pos hf, q_band hb.1 hb.2] at b1
    have h11 : w1.1[x]? = some (.inr (8, [.int t, .int b0, .ref l, .ref a, .int (Int32.ofNat pk)])) := by rw [q_keepF F1 (q_lt_len h1) (by rintro (h | h); exact hla.2.2.1 h; exact hla.2.2.2.1 h), h1]
    have h21 : w1.1[l]? = some (.inl (0, 20, .inl ln)) := by rw [q_keepF F1 (q_lt_len h2) (by rintro (h | h); exact hla.1 h; exact hla.2.1 h), h2]
    have ek : Int32.ofNat pk - 1 = Int32.ofNat (pk - 1) := by
      rw [show pk = (pk - 1) + 1 by omega, show Int32.ofNat (pk - 1 + 1) = Int32.ofNat (pk - 1) + 1 from Int32.ofNat_add _ 1, Nat.add_sub_cancel]
      grind
    have hi : Int32.ofNat (pk - 1) < Int32.ofNat 20 := (q_lt (by omega) (by omega)).mpr (by omega)
    rw [g1, q_call, q_kI, if_pos (show ¬ (1 : Int32) = 0 by decide), q_getR (k := 2) h11 rfl, Option.bind_some, q_getI (k := 4) h11 rfl, Option.bind_some, ek, q_ald h21 (q_ge0 _ (by omega)) hi (by decide), Option.bind_some, q_tno (by omega)]
    obtain ⟨w2, g2, s2, F2⟩ := o_ast h21 (q_ge0 _ (by omega)) hi (by decide) (ln (pk - 1) + 1)
    rw [q_tno (by omega)] at s2
    rw [g2, Option.bind_some, q_ret1]
    have hr'l : r' ≠ l := by
      intro hh
      have := b1.d
      rw [hh, h21] at this
      cases this
    refine ⟨w2, r', n', f', rfl, ⟨F2.at h11 hla.2.2.2.2, s2, b1.keep (F2.2.1 a (fun h => hla.1 h.symm)) (F2.2.1 r' hr'l), h4⟩, ?_, e1, n1, by rw [F2.2.2]; exact c1⟩
    exact (F1.mono (fun y _ h => by rcases h with h | h; exact Or.inl h; exact Or.inr (Or.inl h))).tr F2.fr (fun y _ h => Or.inr (Or.inr h))
theorem qW_byteOf (ho : qCo w rd) (hl : qL w 7 e P) (pk ps : Nat → Nat) (hP : ∀ (k x : Nat), P[k]? = some x → ∃ t b l a r n ln L f, qP w x t b l a r n (pk k) ln L f ∧ L.length = ps k ∧ (l ≠ a ∧ l ≠ r ∧ x ≠ a ∧ x ≠ r ∧ x ≠ l)) (p b : Int32) :
    (q_boc P.length pk ps p b = 1 → ∃ w', fW_byteOf 0 p b w = some (.inr "java/lang/IndexOutOfBoundsException", w') ∧ qT w w') ∧
    (q_boc P.length pk ps p b = 2 → ∃ w', fW_byteOf 0 p b w = some (.inr "java/lang/IllegalStateException", w') ∧ qT w w') ∧
    (q_boc P.length pk ps p b = 3 → ∃ w', fW_byteOf 0 p b w = some (.inr "java/lang/IllegalArgumentException", w') ∧ qT w w') ∧
    (q_boc P.length pk ps p b = 4 → ∃ w', fW_byteOf 0 p b w = some (.inr "java/lang/UnsupportedOperationException", w') ∧ qT w w') ∧
    (q_boc P.length pk ps p b = 0 → ∃ w' x t b0 l a r n ln L f r' n' f', P[p.toInt.toNat]? = some x ∧ fW_byteOf 0 p b w = some (.inl (some (.int (Int32.ofNat (ps p.toInt.toNat + 1)))), w') ∧ qP w x t b0 l a r n (pk p.toInt.toNat) ln L f ∧ qP w' x t b0 l a r' n' (pk p.toInt.toNat) (upd ln (pk p.toInt.toNat - 1) (ln (pk p.toInt.toNat - 1) + 1)) (L ++ [b]) f' ∧ qF (fun y => y = a ∨ y = r ∨ y = l) w w' ∧ (r' = r ∨ w.1.length ≤ r') ∧ n ≤ n' ∧ w'.2.2 + 7 * n ≤ w.2.2 + 7 * n') := by
  have h40 : P.length ≤ 40 := hl.choose_spec.2.1
  by_cases hp : 0 ≤ p.toInt ∧ p.toInt < P.length
  · have ep := q_on p hp.1
    obtain ⟨i0, i1⟩ := q_lt_in (by omega) hp.1 hp.2
    generalize hj : p.toInt.toNat = j at *
    obtain ⟨x0, hx⟩ : ∃ x0, P[j]? = some x0 := ⟨P[j]'(by omega), List.getElem?_eq_getElem (by omega)⟩
    obtain ⟨t, b0, l, a, r, n, ln, L, f, hQ, hps, hne⟩ := hP j _ hx
    have hQ0 := hQ
    obtain ⟨h1, h2, h3, h4⟩ := hQ
    obtain ⟨fl, lo⟩ := hl.obj
    have esc : q_boc P.length pk ps p b = if pk j = 0 then 2 else if ¬ (0 ≤ b.toInt ∧ b.toInt ≤ 255) then 3 else if 300 ≤ ps j then 4 else 0 := by
      unfold q_boc
      rw [if_neg (not_not_intro hp), hj]
    have gt : fAL_get 7 p w = some (.inl (some (.ref x0)), w) := by rw [ep]; exact hl.get j _ hx
    unfold fW_byteOf
    rw [if_neg i0, q_getR (k := 1) ho rfl, Option.bind_some, lo, Option.bind_some, hl.size, q_call, q_kI, if_pos i1, q_getR (k := 1) ho rfl, Option.bind_some, lo, Option.bind_some, gt, q_call, q_kR, q_obj h1, Option.bind_some, q_getI (k := 4) h1 rfl, Option.bind_some, esc]
    by_cases h0 : pk j = 0
    · rw [if_pos h0, if_neg (not_not_intro (show Int32.ofNat (pk j) = 0 by rw [h0]; rfl))]
      exact ⟨fun e => absurd e (by decide), fun _ => q_throw _ _, fun e => absurd e (by decide), fun e => absurd e (by decide), fun e => absurd e (by decide)⟩
    · rw [if_neg h0, if_pos (show ¬ Int32.ofNat (pk j) = 0 from q_ne_of (m := pk j) (n := 0) (by omega) (by omega) h0), qW_isByte, q_call, q_kI]
      by_cases hb : 0 ≤ b.toInt ∧ b.toInt ≤ 255
      · have hG := hQ0.grow (by omega) hne b hb
        rw [if_neg (not_not_intro hb), if_pos hb, if_pos (show ¬ (1 : Int32) = 0 by decide), q_obj h1, Option.bind_some]
        by_cases hf : 300 ≤ ps j
        · rw [if_pos hf, hG.1 (by omega), q_call, q_kI, if_neg (show ¬ ¬ (0 : Int32) = 0 from not_not_intro rfl)]
          exact ⟨fun e => absurd e (by decide), fun e => absurd e (by decide), fun e => absurd e (by decide), fun _ => q_throw _ _, fun e => absurd e (by decide)⟩
        · rw [if_neg hf]
          refine ⟨fun e => absurd e (by decide), fun e => absurd e (by decide), fun e => absurd e (by decide), fun e => absurd e (by decide), fun _ => ?_⟩
          obtain ⟨w1, r', n', f', g1, q1, F1, e1, n1, c1⟩ := hG.2 (by omega)
          rw [g1, q_call, q_kI, if_pos (show ¬ (1 : Int32) = 0 by decide), q_getR (k := 3) q1.1 rfl, Option.bind_some, q_getI (k := 2) q1.2.2.1.o rfl, Option.bind_some]
          refine ⟨w1, x0, t, b0, l, a, r, n, ln, L, f, r', n', f', hx, ?_, hQ0, q1, F1, e1, n1, c1⟩
          rw [List.length_append, hps]
          rfl
      · rw [if_pos hb, if_neg hb, if_neg (show ¬ ¬ (0 : Int32) = 0 from not_not_intro rfl)]
        exact ⟨fun e => absurd e (by decide), fun e => absurd e (by decide), fun _ => q_throw _ _, fun e => absurd e (by decide), fun e => absurd e (by decide)⟩
  · have esc : q_boc P.length pk ps p b = 1 := by
      unfold q_boc
      rw [if_pos hp]
    rw [esc]
    exact ⟨fun _ => qW_byteOf1 ho hl p b hp, fun e => absurd e (by decide), fun e => absurd e (by decide), fun e => absurd e (by decide), fun e => absurd e (by decide)⟩
theorem qW_boxByte (ho : qCo w rd) (hl : qL w 8 e P) (bs : Nat → Nat) (hB : ∀ (k x : Nat), P[k]? = some x → ∃ i c a r n L f, w.1[x]? = some (.inr (4, [.int i, .int c, .ref a])) ∧ qB w a r 40 n L f ∧ L.length = bs k) (p b : Int32) :
    (q_bbc P.length bs p b = 1 → ∃ w', fW_boxByte 0 p b w = some (.inr "java/lang/IndexOutOfBoundsException", w') ∧ qT w w') ∧
    (q_bbc P.length bs p b = 2 → ∃ w', fW_boxByte 0 p b w = some (.inr "java/lang/IllegalArgumentException", w') ∧ qT w w') ∧
    (q_bbc P.length bs p b = 3 → ∃ w', fW_boxByte 0 p b w = some (.inr "java/lang/UnsupportedOperationException", w') ∧ qT w w') ∧
    (q_bbc P.length bs p b = 0 → ∃ w' x i c a r n L f r' n' f', P[p.toInt.toNat]? = some x ∧ fW_boxByte 0 p b w = some (.inl (some (.int (Int32.ofNat (bs p.toInt.toNat + 1)))), w') ∧ w.1[x]? = some (.inr (4, [.int i, .int c, .ref a])) ∧ qB w a r 40 n L f ∧ qB w' a r' 40 n' (L ++ [b]) f' ∧ qF (fun y => y = a ∨ y = r) w w' ∧ (r' = r ∨ w.1.length ≤ r') ∧ n ≤ n' ∧ w'.2.2 + 7 * n ≤ w.2.2 + 7 * n') := by
  have h40 : P.length ≤ 40 := hl.choose_spec.2.1
  by_cases hp : 0 ≤ p.toInt ∧ p.toInt < P.length
  · have ep := q_on p hp.1
    obtain ⟨i0, i1⟩ := q_lt_in (by omega) hp.1 hp.2
    generalize hj : p.toInt.toNat = j at *
    obtain ⟨x0, hx⟩ : ∃ x0, P[j]? = some x0 := ⟨P[j]'(by omega), List.getElem?_eq_getElem (by omega)⟩
    obtain ⟨i, c, a, r, n, L, f, h1, h3, hbs⟩ := hB j _ hx
    obtain ⟨fl, lo⟩ := hl.obj
    have esc : q_bbc P.length bs p b = if ¬ (0 ≤ b.toInt ∧ b.toInt ≤ 255) then 2 else if 40 ≤ bs j then 3 else 0 := by
      unfold q_bbc
      rw [if_neg (not_not_intro hp), hj]
    have gt : fAL_get 8 p w = some (.inl (some (.ref x0)), w) := by rw [ep]; exact hl.get j _ hx
    unfold fW_boxByte
    rw [if_neg i0, q_getR (k := 2) ho rfl, Option.bind_some, lo, Option.bind_some, hl.size, q_call, q_kI, if_pos i1, qW_isByte, q_call, q_kI, esc]
    by_cases hb : 0 ≤ b.toInt ∧ b.toInt ≤ 255
    · rw [if_neg (not_not_intro hb), if_pos hb, if_pos (show ¬ (1 : Int32) = 0 by decide), q_getR (k := 2) ho rfl, Option.bind_some, lo, Option.bind_some, gt, q_call, q_kR, q_obj h1, Option.bind_some, q_getR (k := 2) h1 rfl, Option.bind_some, q_obj h3.o, Option.bind_some]
      by_cases hf : 40 ≤ bs j
      · rw [if_pos hf, h3.full (by omega) b, q_call, q_kI, if_neg (show ¬ ¬ (0 : Int32) = 0 from not_not_intro rfl)]
        exact ⟨fun e => absurd e (by decide), fun e => absurd e (by decide), fun _ => q_throw _ _, fun e => absurd e (by decide)⟩
      · rw [if_neg hf]
        refine ⟨fun e => absurd e (by decide), fun e => absurd e (by decide), fun e => absurd e (by decide), fun _ => ?_⟩
        obtain ⟨v, w1, r', n', f', g1, hv, b1, F1, e1, n1, c1⟩ := h3.append b
        rw [if_pos (by omega)] at hv
        subst hv
        unfold q_app at b1
        rw [if_pos (by omega), q_band hb.1 hb.2] at b1
        rw [g1, q_call, q_kI, if_pos (show ¬ (1 : Int32) = 0 by decide), q_getI (k := 2) b1.o rfl, Option.bind_some]
        refine ⟨w1, x0, i, c, a, r, n, L, f, r', n', f', hx, ?_, h1, h3, b1, F1, e1, n1, c1⟩
        rw [List.length_append, hbs]
        rfl
    · rw [if_pos hb, if_neg hb, if_neg (show ¬ ¬ (0 : Int32) = 0 from not_not_intro rfl)]
      exact ⟨fun e => absurd e (by decide), fun _ => q_throw _ _, fun e => absurd e (by decide), fun e => absurd e (by decide)⟩
  · have esc : q_bbc P.length bs p b = 1 := by
      unfold q_bbc
      rw [if_pos hp]
    rw [esc]
    exact ⟨fun _ => qW_boxByte1 ho hl p b hp, fun e => absurd e (by decide), fun e => absurd e (by decide), fun e => absurd e (by decide)⟩
end
section
variable {w : PW} {z : Nat → Int32} {g : Nat → Nat → Int32} {rd : Int32} {ro no rf nf : Nat} {Lo Lf : List Int32} {fo ff : Nat → Int32}
/-- byteAt in general -/
theorem qB.getn {a r mo n : Nat} {L : List Int32} {f : Nat → Int32} (h : qB w a r mo n L f) (i : Nat) (hi : i < L.length) : fBytes_get a (Int32.ofNat i) w = some (.inl (some (.int L[i])), w) := by
  have hm : L.length ≤ 20000 := by
    have h1 := h.2.2.2.1
    have h2 := h.2.2.2.2.1
    omega
  rw [h.get, if_neg (show ¬ Int32.ofNat i < 0 from fun h => absurd ((q_lt (m := i) (n := 0) (by omega) (by omega)).mp h) (Nat.not_lt_zero _)), q_tno (by omega), List.getElem?_eq_getElem hi]
  rfl
theorem qW_byteAt0 (ho : qCo w rd) (h9 : w.1[9]? = some (.inr (9, [.ref 10]))) (hb : qB w 10 ro 20000 no Lo fo) (i : Int32) (h0 : 0 ≤ i.toInt) (h1 : i.toInt < Lo.length) : fW_byteAt 0 i w = some (.inl (some (.int (Lo[i.toInt.toNat]'(by omega)))), w) := by
  have hm := hb.2.2.2.1
  obtain ⟨i0, i1⟩ := q_lt_in (n := Lo.length) (by omega) h0 h1
  have gt : fBytes_get 10 i w = some (.inl (some (.int (Lo[i.toInt.toNat]'(by omega)))), w) := by
    have := hb.getn i.toInt.toNat (by omega)
    rw [← q_on i h0] at this
    exact this
  unfold fW_byteAt
  rw [if_neg i0, q_getR (k := 3) ho rfl, Option.bind_some, q_getR (k := 0) h9 rfl, Option.bind_some, q_getI (k := 2) hb.o rfl, Option.bind_some, if_pos i1, Option.bind_some, q_getR (k := 0) h9 rfl, Option.bind_some, q_obj hb.o, Option.bind_some, gt, q_call, q_kI]
theorem qM.byteAt0 (h : qM w z g) (m : Nat) (hz : z 20 = Int32.ofNat m) (hm : m ≤ 40000) (i : Int32) (h0 : 0 ≤ i.toInt) (h1 : i.toInt < m) : ∃ w', fD_byteAt 37 i w = some (.inl (some (.int (g 52 i.toInt.toNat))), w') ∧ qM w' (upd z 0 0) g ∧ qI 37 66 w w' := by
  unfold fD_byteAt fD_byteAt_22
  rw [h.I 20 rfl, Option.bind_some, hz, q_in, q_call, q_kI, q_64, q_sub1 (by rw [q_ofi (by omega)]; omega), q_ofi (by omega), q_e0, if_pos (show 0 ≤ i.toInt ∧ i.toInt ≤ (m : Int) - 1 by omega), if_neg (by decide)]
  obtain ⟨w1, g1, q1, F1⟩ := h.put 0 0 (by omega) rfl
  have l52 : p_ald w1 52 0 i = some (g 52 i.toInt.toNat) := by
    have := q1.ldn 52 0 i.toInt.toNat rfl (by omega) (by omega) (by show _ < 40000; omega) (by decide)
    rw [← q_on i h0] at this
    exact this
  rw [g1, Option.bind_some, q1.I 0 rfl, Option.bind_some, show upd z 0 0 0 = 0 from rfl, if_pos (by decide), q1.R 19 52 rfl, Option.bind_some, l52, Option.bind_some]
  exact ⟨w1, rfl, q1, F1⟩
/-- alter in general -/
def q_alc (m : Nat) (i b : Int32) : Int32 := if ¬ (0 ≤ i.toInt ∧ i.toInt < m) then 1 else if ¬ (0 ≤ b.toInt ∧ b.toInt ≤ 255) then 2 else 0
theorem qW_alter (ho : qCo w rd) (hb : qB w 12 rf 20000 nf Lf ff) (hr0 : rf ≠ 0) (i b : Int32) :
    (q_alc Lf.length i b = 1 → ∃ w', fW_alter 0 i b w = some (.inr "java/lang/IndexOutOfBoundsException", w') ∧ qT w w') ∧
    (q_alc Lf.length i b = 2 → ∃ w', fW_alter 0 i b w = some (.inr "java/lang/IllegalArgumentException", w') ∧ qT w w') ∧
    (q_alc Lf.length i b = 0 → ∃ w' f' v, Lf[i.toInt.toNat]? = some v ∧ fW_alter 0 i b w = some (.inl (some (.int v)), w') ∧ qB w' 12 rf 20000 nf (Lf.set i.toInt.toNat b) f' ∧ qE rf w w') := by
  have hm := hb.2.2.2.1
  by_cases hi : 0 ≤ i.toInt ∧ i.toInt < Lf.length
  · obtain ⟨i0, i1⟩ := q_lt_in (n := Lf.length) (by omega) hi.1 hi.2
    have esc : q_alc Lf.length i b = if ¬ (0 ≤ b.toInt ∧ b.toInt ≤ 255) then 2 else 0 := by
      unfold q_alc
      rw [if_neg (not_not_intro hi)]
    unfold fW_alter
    rw [if_neg i0, q_getR (k := 4) ho rfl, Option.bind_some, q_getI (k := 2) hb.o rfl, Option.bind_some, if_pos i1, qW_isByte, q_call, q_kI, esc]
    by_cases hbb : 0 ≤ b.toInt ∧ b.toInt ≤ 255
    · rw [if_neg (not_not_intro hbb), if_pos hbb, if_pos (show ¬ (1 : Int32) = 0 by decide), q_getR (k := 4) ho rfl, Option.bind_some, q_obj hb.o, Option.bind_some]
      refine ⟨fun e => absurd e (by decide), fun e => absurd e (by decide), fun _ => ?_⟩
      have gt : fBytes_get 12 i w = some (.inl (some (.int (Lf[i.toInt.toNat]'(by omega)))), w) := by
        have := hb.getn i.toInt.toNat (by omega)
        rw [← q_on i hi.1] at this
        exact this
      rw [gt, q_call, q_kI, q_getR (k := 4) ho rfl, Option.bind_some, q_obj hb.o, Option.bind_some]
      obtain ⟨w1, f', g1, b1, F1⟩ := hb.put i b
      rw [g1, q_call, q_kV]
      refine ⟨w1, f', _, List.getElem?_eq_getElem (by omega), rfl, ?_, F1⟩
      have : q_setb Lf i b = Lf.set i.toInt.toNat b := by
        unfold q_setb
        rw [if_neg i0, q_band hbb.1 hbb.2]
        rfl
      rw [← this]
      exact b1
    · rw [if_pos hbb, if_neg hbb, if_neg (show ¬ ¬ (0 : Int32) = 0 from not_not_intro rfl)]
      exact ⟨fun e => absurd e (by decide), fun _ => q_throw _ _, fun e => absurd e (by decide)⟩
  · have esc : q_alc Lf.length i b = 1 := by
      unfold q_alc
      rw [if_pos hi]
    rw [esc]
    exact ⟨fun _ => qW_alter1 ho hb i b hi, fun e => absurd e (by decide), fun e => absurd e (by decide)⟩
theorem qM.alter (h : qM w z g) (m : Nat) (hz : z 22 = Int32.ofNat m) (hm : m ≤ 20000) (i b : Int32) :
    ∃ w' v, fD_alter 37 i b w = some (.inl (some (.int v)), w') ∧ qI 37 66 w w' ∧ (¬ q_alc m i b = 0 → qM w' (upd z 0 (q_alc m i b)) g) ∧ (q_alc m i b = 0 → v = g 53 i.toInt.toNat ∧ qM w' (upd z 0 0) (ug g 53 i.toInt.toNat b)) := by
  by_cases hi : 0 ≤ i.toInt ∧ i.toInt < m
  · have esc : q_alc m i b = if ¬ (0 ≤ b.toInt ∧ b.toInt ≤ 255) then 2 else 0 := by
      unfold q_alc
      rw [if_neg (not_not_intro hi)]
    unfold fD_alter fD_alter_38
    rw [h.I 22 rfl, Option.bind_some, hz, q_in, q_call, q_kI, q_64, q_sub1 (by rw [q_ofi (by omega)]; omega), q_ofi (by omega), q_e0, if_pos (show 0 ≤ i.toInt ∧ i.toInt ≤ (m : Int) - 1 by omega), if_pos (show ¬ (1 : Int32) = 0 by decide), q_in, q_call, q_kI, q_64, q_e0, q_e255, esc]
    by_cases hb : 0 ≤ b.toInt ∧ b.toInt ≤ 255
    · rw [if_pos hb, if_pos (show ¬ (1 : Int32) = 0 by decide), if_neg (not_not_intro hb)]
      obtain ⟨w1, g1, q1, F1⟩ := h.put 0 0 (by omega) rfl
      have l53 : p_ald w1 53 0 i = some (g 53 i.toInt.toNat) := by
        have := q1.ldn 53 0 i.toInt.toNat rfl (by omega) (by omega) (by show _ < 20000; omega) (by decide)
        rw [← q_on i hi.1] at this
        exact this
      rw [g1, Option.bind_some, q1.I 0 rfl, Option.bind_some, show upd z 0 0 0 = 0 from rfl, if_pos (by decide), q1.R 21 53 rfl, Option.bind_some, l53, Option.bind_some, Option.bind_some]
      obtain ⟨w2, g2, q2, F2⟩ := q1.stn 53 0 i.toInt.toNat b rfl (by omega) (by omega) (by show _ < 20000; omega) (by decide)
      rw [← q_on i hi.1] at g2
      rw [g2, Option.bind_some]
      exact ⟨w2, _, rfl, F1.tr F2, fun hh => absurd rfl hh, fun _ => ⟨rfl, q2⟩⟩
    · rw [if_neg hb, if_neg (show ¬ ¬ (0 : Int32) = 0 from not_not_intro rfl), if_pos hb]
      obtain ⟨w1, g1, q1, F1⟩ := h.put 0 2 (by omega) rfl
      rw [g1, Option.bind_some, q1.I 0 rfl, Option.bind_some, show upd z 0 2 0 = 2 from rfl, if_neg (by decide)]
      exact ⟨w1, 0, rfl, F1, fun _ => q1, fun e => absurd e (by decide)⟩
  · have esc : q_alc m i b = 1 := by
      unfold q_alc
      rw [if_pos hi]
    rw [esc]
    obtain ⟨w1, e1, q1, F1⟩ := h.alter1 m hz hm i b hi
    exact ⟨w1, 0, e1, F1, fun _ => q1, fun e => absurd e (by decide)⟩
/-- pass in general -/
def q_many2 (m : Nat) (i n : Int32) : Nat := min n.toInt.toNat (m - i.toInt.toNat)
def q_psc (m l : Nat) (i n : Int32) : Int32 := if ¬ (0 ≤ i.toInt ∧ i.toInt < m) then 1 else if n.toInt < 0 then 2 else if 20000 < l + q_many2 m i n then 3 else 0
theorem qW_ps87 {w0 : PW} (ho : qCo w0 rd) (h9 : w0.1[9]? = some (.inr (9, [.ref 10]))) (hb : qB w0 10 ro 20000 no Lo fo) (hne : ro ≠ 12 ∧ ro ≠ rf ∧ rf ≠ 0 ∧ rf ≠ 9 ∧ rf ≠ 10) (i : Int32) (m : Nat) (h0 : 0 ≤ i.toInt) (h1 : i.toInt.toNat + m ≤ Lo.length) : ∀ (k j F : Nat) (w : PW) (L : List Int32), qBS 12 w0 rf nf 20000 w L → k < F → j + k = m → L.length + k ≤ 20000 → ∃ w', fW_pass_87 F 0 i (Int32.ofNat m) (Int32.ofNat j) w = some (.inl (some (.int (Int32.ofNat m))), w') ∧ qBS 12 w0 rf nf 20000 w' (L ++ (Lo.drop (i.toInt.toNat + j)).take k)
  | 0, j, F + 1, w, L, h, _, hj, hL => by
    have hm := hb.2.2.2.1
    rw [fW_pass_87, if_pos ((q_le (by omega) (by omega)).mpr (by omega)), List.take_zero, List.append_nil]
    exact ⟨w, rfl, h⟩
  | k + 1, j, F + 1, w, L, h, hF, hj, hL => by
    have hm := hb.2.2.2.1
    obtain ⟨r, n, f, b1, F1, e1, -, -⟩ := id h
    have kp : ∀ x, x < w0.1.length → x ≠ 12 → x ≠ rf → w.1[x]? = w0.1[x]? := fun x a b c => F1.2.1 x a (by rintro (h | h); exact b h; exact c h)
    have ho1 : qCo w rd := by unfold qCo; rw [kp 0 (q_lt_len ho) (by decide) (fun h => hne.2.2.1 h.symm)]; exact ho
    have h91 : w.1[9]? = some (.inr (9, [.ref 10])) := by rw [kp 9 (q_lt_len h9) (by decide) (fun h => hne.2.2.2.1 h.symm), h9]
    have hb1 : qB w 10 ro 20000 no Lo fo := hb.keep (kp 10 (q_lt_len hb.o) (by decide) (fun h => hne.2.2.2.2 h.symm)) (kp ro (q_lt_len hb.d) hne.1 hne.2.1)
    have ei : i + Int32.ofNat j = Int32.ofNat (i.toInt.toNat + j) := by
      have := Int32.ofNat_add i.toInt.toNat j
      rw [← q_on i h0] at this
      exact this.symm
    rw [fW_pass_87, if_neg (fun hh => by have := (q_le (m := m) (n := j) (by omega) (by omega)).mp hh; omega), q_getR (k := 4) ho1 rfl, Option.bind_some, q_getR (k := 3) ho1 rfl, Option.bind_some, q_getR (k := 0) h91 rfl, Option.bind_some, q_obj hb1.o, Option.bind_some, ei, hb1.getn (i.toInt.toNat + j) (by omega), q_call, q_kI, q_obj b1.o, Option.bind_some]
    obtain ⟨v, w2, g2, hv, b2⟩ := h.append (Lo[i.toInt.toNat + j]'(by omega))
    rw [g2, q_call, q_kI, q_let, show Int32.ofNat j + 1 = Int32.ofNat (j + 1) from (Int32.ofNat_add j 1).symm]
    unfold q_app at b2
    rw [if_pos (by omega), hb.b255 _ (by omega)] at b2
    obtain ⟨w3, g3, b3⟩ := qW_ps87 ho h9 hb hne i m h0 h1 k (j + 1) F w2 _ b2 (by omega) (by omega) (by simp; omega)
    refine ⟨w3, g3, ?_⟩
    rw [List.append_assoc] at b3
    rw [List.drop_eq_getElem_cons (by omega), List.take_succ_cons]
    exact b3
theorem qW_pass (ho : qCo w rd) (h9 : w.1[9]? = some (.inr (9, [.ref 10]))) (hb : qB w 10 ro 20000 no Lo fo) (hf : qB w 12 rf 20000 nf Lf ff) (hne : ro ≠ 12 ∧ ro ≠ rf ∧ rf ≠ 0 ∧ rf ≠ 9 ∧ rf ≠ 10) (i n : Int32) :
    (q_psc Lo.length Lf.length i n = 1 → ∃ w', fW_pass 0 i n w = some (.inr "java/lang/IndexOutOfBoundsException", w') ∧ qT w w') ∧
    (q_psc Lo.length Lf.length i n = 2 → ∃ w', fW_pass 0 i n w = some (.inr "java/lang/IllegalArgumentException", w') ∧ qT w w') ∧
    (q_psc Lo.length Lf.length i n = 3 → ∃ w', fW_pass 0 i n w = some (.inr "java/lang/UnsupportedOperationException", w') ∧ qT w w') ∧
    (q_psc Lo.length Lf.length i n = 0 → ∃ w', fW_pass 0 i n w = some (.inl (some (.int (Int32.ofNat (q_many2 Lo.length i n)))), w') ∧ qBS 12 w rf nf 20000 w' (Lf ++ (Lo.drop i.toInt.toNat).take (q_many2 Lo.length i n))) := by
  have hm := hb.2.2.2.1
  have hmf := hf.2.2.2.1
  by_cases hi : 0 ≤ i.toInt ∧ i.toInt < Lo.length
  · obtain ⟨i0, i1⟩ := q_lt_in (n := Lo.length) (by omega) hi.1 hi.2
    have esc : q_psc Lo.length Lf.length i n = if n.toInt < 0 then 2 else if 20000 < Lf.length + q_many2 Lo.length i n then 3 else 0 := by
      unfold q_psc
      rw [if_neg (not_not_intro hi)]
    unfold fW_pass
    rw [if_neg i0, q_getR (k := 3) ho rfl, Option.bind_some, q_getR (k := 0) h9 rfl, Option.bind_some, q_getI (k := 2) hb.o rfl, Option.bind_some, if_pos i1, esc]
    have e0 : (0 : Int32).toInt = 0 := rfl
    by_cases hn : n.toInt < 0
    · rw [if_pos hn, if_neg (show ¬ (0 : Int32) ≤ n by rw [q_lei]; omega)]
      exact ⟨fun e => absurd e (by decide), fun _ => q_throw _ _, fun e => absurd e (by decide), fun e => absurd e (by decide)⟩
    · rw [if_neg hn, if_pos (show (0 : Int32) ≤ n by rw [q_lei]; omega), Option.bind_some, q_getR (k := 0) h9 rfl, Option.bind_some, q_getI (k := 2) hb.o rfl, Option.bind_some, q_let, q_getR (k := 4) ho rfl, Option.bind_some, q_getI (k := 2) hf.o rfl, Option.bind_some]
      have ed : Int32.ofNat Lo.length - i = Int32.ofNat (Lo.length - i.toInt.toNat) := by
        have h2 := Int32.ofNat_add (Lo.length - i.toInt.toNat) i.toInt.toNat
        rw [← q_on i hi.1, show Lo.length - i.toInt.toNat + i.toInt.toNat = Lo.length by omega] at h2
        rw [h2]
        grind
      have em : p_min n (Int32.ofNat Lo.length - i) = Int32.ofNat (q_many2 Lo.length i n) := by
        rw [ed, q_min2 (by omega) (by omega)]
        rfl
      have hq : q_many2 Lo.length i n ≤ 20000 := by unfold q_many2; omega
      have hq2 : i.toInt.toNat + q_many2 Lo.length i n ≤ Lo.length := by unfold q_many2; omega
      have ef : (20000 : Int32) - Int32.ofNat Lf.length = Int32.ofNat (20000 - Lf.length) := by
        have h2 := Int32.ofNat_add (20000 - Lf.length) Lf.length
        rw [show 20000 - Lf.length + Lf.length = 20000 by omega] at h2
        rw [show (20000 : Int32) = Int32.ofNat 20000 from rfl, h2]
        grind
      rw [em, ef]
      have cc : Int32.ofNat (q_many2 Lo.length i n) ≤ Int32.ofNat (20000 - Lf.length) ↔ q_many2 Lo.length i n ≤ 20000 - Lf.length := q_le (by omega) (by omega)
      by_cases hc : 20000 < Lf.length + q_many2 Lo.length i n
      · rw [if_pos hc, if_neg (fun hh => by have := cc.mp hh; omega)]
        exact ⟨fun e => absurd e (by decide), fun e => absurd e (by decide), fun _ => q_throw _ _, fun e => absurd e (by decide)⟩
      · rw [if_neg hc, if_pos (cc.mpr (by omega))]
        refine ⟨fun e => absurd e (by decide), fun e => absurd e (by decide), fun e => absurd e (by decide), fun _ => ?_⟩
        have := qW_ps87 ho h9 hb hne i (q_many2 Lo.length i n) hi.1 hq2 (q_many2 Lo.length i n) 0 FUEL w Lf hf.bs (by show _ < 1000000; omega) (by omega) (by omega)
        rw [Nat.add_zero] at this
        exact this
  · have esc : q_psc Lo.length Lf.length i n = 1 := by
      unfold q_psc
      rw [if_pos hi]
    rw [esc]
    exact ⟨fun _ => qW_pass1 ho h9 hb i n hi, fun e => absurd e (by decide), fun e => absurd e (by decide), fun e => absurd e (by decide)⟩
end
