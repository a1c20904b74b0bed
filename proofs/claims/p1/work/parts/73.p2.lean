section
variable {w : PW} {rd lc cnt : Int32} {pa : Nat → Nat → Int32} {tw th : Int32} {sz dp nm sy sp : Nat → Int32}
theorem qB.zero {a r n : Nat} {L : List Int32} {f : Nat → Int32} (h : qB w a r 20000 n L f) : ∃ w', p_put w a 2 2 (.int 0) = some w' ∧ qB w' a r 20000 n [] f ∧ qE a w w' := by
  have hne := h.ne
  obtain ⟨ho, hd, h1, h2, h3, h4, h5, h6, h7⟩ := h
  obtain ⟨w1, g1, s1, F1⟩ := o_put (k := 2) ho (by simp) (.int 0)
  exact ⟨w1, g1, ⟨s1, F1.at hd hne.symm, by simp, by simp, h3, h4, h5, h6, fun i hi => absurd hi (Nat.not_lt_zero i)⟩, F1⟩
/-- where the rows that move may lie -/
def qD (ro rf rt r4 r6 : Nat) (e7 e8 : Value) : Prop :=
  ((ro = 11 ∨ 67 ≤ ro) ∧ (rf = 13 ∨ 67 ≤ rf) ∧ (rt = 15 ∨ 67 ≤ rt) ∧ (r4 = 24 ∨ 67 ≤ r4) ∧ (r6 = 26 ∨ 67 ≤ r6)) ∧ (ro ≠ rf ∧ ro ≠ rt ∧ ro ≠ r4 ∧ ro ≠ r6 ∧ rf ≠ rt ∧ rf ≠ r4 ∧ rf ≠ r6 ∧ rt ≠ r4 ∧ rt ≠ r6 ∧ r4 ≠ r6) ∧
  (∀ y : Nat, .ref y = e7 → 67 ≤ y ∧ y ≠ ro ∧ y ≠ rf ∧ y ≠ rt ∧ y ≠ r4 ∧ y ≠ r6) ∧ (∀ y : Nat, .ref y = e8 → 67 ≤ y ∧ y ≠ ro ∧ y ≠ rf ∧ y ≠ rt ∧ y ≠ r4 ∧ y ≠ r6) ∧ ∀ y : Nat, .ref y = e7 → ¬ .ref y = e8
/-- all of the class's object, parts and boxes aside -/
def qA0 (w : PW) (rd : Int32) (tw th : Int32) (sz dp nm sy sp : Nat → Int32) (e7 e8 : Value) (P Q : List Nat) (ro no rf nf rt nt : Nat) (Lo Lf Lt : List Int32) (fo ff ft : Nat → Int32) (tr hr : Int32) (szr dpr nmr syr spr : Nat → Int32) (co fr en lc cnt : Int32) (pa : Nat → Nat → Int32) (he : Int32) (r4 n4 r6 n6 : Nat) (L4 L6 : List Int32) (f4 f6 : Nat → Int32) : Prop :=
  qCo w rd ∧ qS w 1 tw th sz dp nm sy sp ∧ qL w 7 e7 P ∧ qL w 8 e8 Q ∧ w.1[9]? = some (.inr (9, [.ref 10])) ∧ qB w 10 ro 20000 no Lo fo ∧ qB w 12 rf 20000 nf Lf ff ∧ qB w 14 rt 20000 nt Lt ft ∧ qS w 16 tr hr szr dpr nmr syr spr ∧ qRd w co fr en lc cnt pa he r4 n4 r6 n6 L4 L6 f4 f6 ∧ qD ro rf rt r4 r6 e7 e8
theorem qW_clear {e7 e8 : Value} {P Q : List Nat} {ro no rf nf rt nt : Nat} {Lo Lf Lt : List Int32} {fo ff ft : Nat → Int32} {tr hr : Int32} {szr dpr nmr syr spr : Nat → Int32} {co fr en : Int32} {he : Int32} {r4 n4 r6 n6 : Nat} {L4 L6 : List Int32} {f4 f6 : Nat → Int32}
    (h : qA0 w rd tw th sz dp nm sy sp e7 e8 P Q ro no rf nf rt nt Lo Lf Lt fo ff ft tr hr szr dpr nmr syr spr co fr en lc cnt pa he r4 n4 r6 n6 L4 L6 f4 f6) :
    ∃ w' sy' sp' syr' spr' pa', fW_clear 0 w = some (.inl none, w') ∧ qA0 w' 0 tw th (upd (upd (upd sz 0 tw) 1 th) 2 1) (q_all8 dp 4 0) (q_rst nm 7 4) sy' sp' e7 e8 [] [] ro no rf nf rt nt [] [] [] fo ff ft tr hr szr dpr nmr syr' spr' (-1) fr en lc 0 pa' he r4 n4 r6 n6 [] [] f4 f6 ∧ (∀ j, j < 125 → sy' j = (if j = 0 then 1 else 0) ∧ sp' j = (if j = 0 then 1 else 0)) ∧ (∀ x, 37 ≤ x → (∀ y : Nat, .ref y = e7 ∨ .ref y = e8 → x ≠ y) → w'.1[x]? = w.1[x]?) ∧ w'.2 = w.2 ∧ w'.1.length = w.1.length := by
  obtain ⟨hO, hS, h7, h8, h9, hbo, hbf, hbt, hSr, hR, hD⟩ := h
  have hD0 := hD
  obtain ⟨⟨d1, d2, d3, d4, d5⟩, ⟨n1, n2, n3, n4', n5, n6', n7, n8, n9, n10⟩, y7, y8, y78⟩ := hD
  obtain ⟨fs, so⟩ := hS.obj
  unfold fW_clear
  rw [q_getR (k := 0) hO rfl, Option.bind_some, Option.bind_some, q_getI (k := 5) hS.1 rfl, Option.bind_some, Option.bind_some, q_getI (k := 6) hS.1 rfl, Option.bind_some, so, Option.bind_some]
  obtain ⟨w1, sy', sp', g1, s1, t1, F1⟩ := hS.restart tw th
  rw [g1, q_call, q_kV]
  have k1 : ∀ x, (x < 1 ∨ 7 ≤ x) → w1.1[x]? = w.1[x]? := fun x hx => F1.2.2 x (by omega)
  have o1 : qCo w1 rd := by unfold qCo; rw [k1 0 (by omega)]; exact hO
  have elP : ∀ x ∈ P, 37 ≤ x ∨ x < 1 ∨ 7 ≤ x ∨ True := fun _ _ => by simp
  -- the lists keep their rows; their elements need only stay elements
  have l7a : ∃ m, w1.1[7]? = some (.inr (11, [.int m, e7, .int (Int32.ofNat P.length)])) := by
    obtain ⟨m, hm, -⟩ := h7
    exact ⟨m, by rw [k1 7 (by omega), hm]⟩
  have pk : ∀ x, p_elt w x = true → p_elt w1 x = true := fun x hx => by
    obtain ⟨c, gs, q1, q2⟩ := p_elt_some hx
    have : x < 1 ∨ 7 ≤ x := by
      by_cases hx7 : 7 ≤ x
      · exact Or.inr hx7
      · by_cases hx1 : x < 1
        · exact Or.inl hx1
        · have hx6 : x = 1 ∨ x = 2 ∨ x = 3 ∨ x = 4 ∨ x = 5 ∨ x = 6 := by omega
          rcases hx6 with e | e | e | e | e | e <;> subst e
          · rw [hS.1] at q1; cases q1; rcases q2 with q | q <;> cases q
          · rw [hS.2.1] at q1; cases q1
          · rw [hS.2.2.1] at q1; cases q1
          · rw [hS.2.2.2.1] at q1; cases q1
          · rw [hS.2.2.2.2.1] at q1; cases q1
          · rw [hS.2.2.2.2.2.1] at q1; cases q1
    rw [p_elt_keep (k1 x this), hx]
  have lst : ∀ (a : Nat) (e : Value) (M : List Nat), (a = 7 ∨ a = 8) → (∀ y : Nat, .ref y = e → 67 ≤ y) → qL w a e M → qL w1 a e M := fun a e M ha hy hl => by
    obtain ⟨m, m1, m2, m3, m4⟩ := hl
    refine ⟨m, by rw [k1 a (by omega), m1], m2, fun x hx => pk x (m3 x hx), ?_⟩
    rcases m4 with m4 | ⟨r, n, f, m5, m6, m7⟩
    · exact Or.inl m4
    · exact Or.inr ⟨r, n, f, m5, by rw [k1 r (by have := hy r m5.symm; omega), m6], m7⟩
  have h71 := lst 7 e7 P (Or.inl rfl) (fun y hy => (y7 y hy).1) h7
  have h81 := lst 8 e8 Q (Or.inr rfl) (fun y hy => (y8 y hy).1) h8
  obtain ⟨f7, o7⟩ := h71.obj
  rw [q_getR (k := 1) o1 rfl, Option.bind_some, o7, Option.bind_some]
  obtain ⟨w2, g2, l2, F2, c2, n2'⟩ := h71.clear
  rw [g2, q_call, q_kV]
  have k2 : ∀ x, x < w1.1.length → x ≠ 7 → (∀ y : Nat, .ref y = e7 → x ≠ y) → w2.1[x]? = w1.1[x]? := fun x a b c => q_keepF F2 a (by rintro (h | h); exact b h; exact c x h rfl)
  have len1 : w1.1.length = w.1.length := F1.1
  have l66 : 36 < w.1.length := q_lt_len (hR.2.2.2.2.1.2 36 (by omega) (by omega))
  have s2 : ∀ x, x < 67 → x < w.1.length → x ≠ 7 → w2.1[x]? = w1.1[x]? := fun x a a2 b => k2 x (by omega) b (fun y hy e => by have := (y7 y hy).1; omega)
  have o2 : qCo w2 rd := by unfold qCo; rw [s2 0 (by omega) (by omega) (by omega)]; exact o1
  have h82 : qL w2 8 e8 Q := by
    obtain ⟨m, m1, m2, m3, m4⟩ := h81
    have l8 : 8 < w1.1.length := q_lt_len m1
    refine ⟨m, by rw [s2 8 (by omega) (by omega) (by omega), m1], m2, fun x hx => ?_, ?_⟩
    · obtain ⟨c, gs, q1, q2⟩ := p_elt_some (m3 x hx)
      rw [p_elt_keep (k2 x (q_lt_len q1) (fun e => by
        rw [e] at q1
        obtain ⟨m', hm', -⟩ := h71
        rw [hm'] at q1
        cases q1
        rcases q2 with q | q <;> cases q) (fun y hy e => by
        rw [e] at q1
        obtain ⟨m', -, -, -, hm'⟩ := h71
        rcases hm' with ⟨x1, -⟩ | ⟨r, n, f, x1, hr, -⟩
        · rw [x1] at hy; cases hy
        · rw [x1] at hy
          cases hy
          rw [hr] at q1
          cases q1)), m3 x hx]
    · rcases m4 with m4 | ⟨r, n, f, m5, m6, m7⟩
      · exact Or.inl m4
      · exact Or.inr ⟨r, n, f, m5, by rw [k2 r (q_lt_len m6) (by have := (y8 r m5.symm).1; omega) (fun y hy e => y78 y hy (by rw [← e, m5])), m6], m7⟩
  obtain ⟨f8, o8⟩ := h82.obj
  rw [q_getR (k := 2) o2 rfl, Option.bind_some, o8, Option.bind_some]
  obtain ⟨w3, g3, l3, F3, c3, n3'⟩ := h82.clear
  rw [g3, q_call, q_kV]
  have k3 : ∀ x, x < w2.1.length → x ≠ 8 → (∀ y : Nat, .ref y = e8 → x ≠ y) → w3.1[x]? = w2.1[x]? := fun x a b c => q_keepF F3 a (by rintro (h | h); exact b h; exact c x h rfl)
  have s3 : ∀ x, x < 67 → x < w.1.length → x ≠ 8 → w3.1[x]? = w2.1[x]? := fun x a a2 b => k3 x (by omega) b (fun y hy e => by have := (y8 y hy).1; omega)
  have o3 : qCo w3 rd := by unfold qCo; rw [s3 0 (by omega) (by omega) (by omega)]; exact o2
  have h93 : w3.1[9]? = some (.inr (9, [.ref 10])) := by rw [s3 9 (by omega) (by omega) (by omega), s2 9 (by omega) (by omega) (by omega), k1 9 (by omega), h9]
  -- a row that is none of the lists' rows
  have row : ∀ x, x < w.1.length → 7 ≤ x → x ≠ 7 → x ≠ 8 → (∀ y : Nat, .ref y = e7 → x ≠ y) → (∀ y : Nat, .ref y = e8 → x ≠ y) → w3.1[x]? = w.1[x]? := fun x a b c d e f => by rw [k3 x (by omega) d f, k2 x (by omega) c e, k1 x (by omega)]
  have st : ∀ x, x < 67 → x < w.1.length → 9 ≤ x → w3.1[x]? = w.1[x]? := fun x a b c => row x b (by omega) (by omega) (by omega) (fun y hy e => by have := (y7 y hy).1; omega) (fun y hy e => by have := (y8 y hy).1; omega)
  have kb : ∀ (a r n : Nat) (L : List Int32) (f : Nat → Int32), 9 ≤ a → a < 37 → 9 ≤ r → (∀ y : Nat, .ref y = e7 → r ≠ y) → (∀ y : Nat, .ref y = e8 → r ≠ y) → qB w a r 20000 n L f → qB w3 a r 20000 n L f := fun a r n L f a1 a2 a3 a4 a5 hb => hb.keep (st a (by omega) (by omega) a1) (row r (q_lt_len hb.d) (by omega) (by omega) (by omega) a4 a5)
  have hbo3 := kb 10 ro no Lo fo (by omega) (by omega) (by omega) (fun y hy e => (y7 y hy).2.1 e.symm) (fun y hy e => (y8 y hy).2.1 e.symm) hbo
  have hbf3 := kb 12 rf nf Lf ff (by omega) (by omega) (by omega) (fun y hy e => (y7 y hy).2.2.1 e.symm) (fun y hy e => (y8 y hy).2.2.1 e.symm) hbf
  have hbt3 := kb 14 rt nt Lt ft (by omega) (by omega) (by omega) (fun y hy e => (y7 y hy).2.2.2.1 e.symm) (fun y hy e => (y8 y hy).2.2.2.1 e.symm) hbt
  rw [q_getR (k := 3) o3 rfl, Option.bind_some, q_obj h93, Option.bind_some]
  obtain ⟨w4, g4, b4', F4⟩ := hbo3.begin h93
  rw [g4, q_call, q_kV]
  have o4 : qCo w4 rd := F4.at o3 (by decide)
  have hbf4 : qB w4 12 rf 20000 nf Lf ff := hbf3.keep (F4.2.1 12 (by decide)) (F4.2.1 rf (by omega))
  have hbt4 : qB w4 14 rt 20000 nt Lt ft := hbt3.keep (F4.2.1 14 (by decide)) (F4.2.1 rt (by omega))
  rw [q_getR (k := 4) o4 rfl, Option.bind_some]
  obtain ⟨w5, g5, b5, F5⟩ := hbf4.zero
  rw [g5, Option.bind_some]
  have o5 : qCo w5 rd := F5.at o4 (by decide)
  have hbt5 : qB w5 14 rt 20000 nt Lt ft := hbt4.keep (F5.2.1 14 (by decide)) (F5.2.1 rt (by omega))
  rw [q_getR (k := 5) o5 rfl, Option.bind_some]
  obtain ⟨w6, g6, b6, F6⟩ := hbt5.zero
  rw [g6, Option.bind_some]
  have o6 : qCo w6 rd := F6.at o5 (by decide)
  have k6 : ∀ x, x ≠ 10 → x ≠ 12 → x ≠ 14 → w6.1[x]? = w3.1[x]? := fun x a b c => by rw [F6.2.1 x c, F5.2.1 x b, F4.2.1 x a]
  have hS6 : qS w6 16 tr hr szr dpr nmr syr spr := hSr.keep (fun x a b => by rw [k6 x (by omega) (by omega) (by omega), st x (by omega) (by omega) (by omega)])
  have hR6 : qRd w6 co fr en lc cnt pa he r4 n4 r6 n6 L4 L6 f4 f6 := hR.keep (fun x hx => by
    rcases hx with hx | hx | hx
    · rw [k6 x (by omega) (by omega) (by omega), st x (by omega) (by omega) (by omega)]
    · subst hx
      rw [k6 x (by omega) (by omega) (by omega), row x (q_lt_len hR.2.1.2.1) (by omega) (by omega) (by omega) (fun y hy e => (y7 y hy).2.2.2.2.1 e.symm) (fun y hy e => (y8 y hy).2.2.2.2.1 e.symm)]
    · subst hx
      rw [k6 x (by omega) (by omega) (by omega), row x (q_lt_len hR.2.2.1.2.1) (by omega) (by omega) (by omega) (fun y hy e => (y7 y hy).2.2.2.2.2 e.symm) (fun y hy e => (y8 y hy).2.2.2.2.2 e.symm)])
  rw [q_obj o6, Option.bind_some]
  obtain ⟨w7, pa', syr', spr', g7, o7', R7, S7, K7, c7, l7⟩ := qW_forgetReading o6 hR6 hS6
  rw [g7, q_call, q_kV]
  have kk : ∀ x, x ≠ 0 → (x < 16 ∨ 37 ≤ x) → x ≠ 10 → x ≠ 12 → x ≠ 14 → w7.1[x]? = w3.1[x]? := fun x a b c d e => by rw [K7 x a b, k6 x c d e]
  have sS : qS w7 1 tw th (upd (upd (upd sz 0 tw) 1 th) 2 1) (q_all8 dp 4 0) (q_rst nm 7 4) sy' sp' := s1.keep (fun x a b => by rw [kk x (by omega) (by omega) (by omega) (by omega) (by omega), s3 x (by omega) (by omega) (by omega), s2 x (by omega) (by omega) (by omega)])
  have e7lt : ∀ y : Nat, .ref y = e7 → y < w1.1.length := fun y hy => by
    obtain ⟨m', -, -, -, hm'⟩ := h71
    rcases hm' with ⟨x1, -⟩ | ⟨r, n, f, x1, hr, -⟩
    · rw [x1] at hy; cases hy
    · rw [x1] at hy
      cases hy
      exact q_lt_len hr
  have f7' : qL w7 7 e7 [] := l2.keep (fun y hy => by
    rcases hy with h | h | h
    · subst h
      rw [kk 7 (by omega) (by omega) (by omega) (by omega) (by omega), s3 7 (by omega) (by omega) (by omega)]
    · have a1 := y7 y h
      rw [kk y (by omega) (by omega) (by omega) (by omega) (by omega), k3 y (by have := e7lt y h; omega) (by omega) (fun y' hy' e => y78 y h (by rw [e]; exact hy'))]
    · exact absurd h (by simp))
  have f8' : qL w7 8 e8 [] := l3.keep (fun y hy => by
    rcases hy with h | h | h
    · subst h
      rw [kk 8 (by omega) (by omega) (by omega) (by omega) (by omega)]
    · have a1 := y8 y h
      rw [kk y (by omega) (by omega) (by omega) (by omega) (by omega)]
    · exact absurd h (by simp))
  refine ⟨w7, sy', sp', syr', spr', pa', rfl, ⟨o7', sS, f7', f8', ?_, ?_, ?_, ?_, S7, R7, hD0⟩, t1, fun x hx hy => ?_, ?_, ?_⟩
  · rw [kk 9 (by omega) (by omega) (by omega) (by omega) (by omega), h93]
  · refine b4'.keep ?_ ?_
    · rw [K7 10 (by omega) (by omega), F6.2.1 10 (by decide), F5.2.1 10 (by decide)]
    · rw [K7 ro (by omega) (by omega), F6.2.1 ro (by omega), F5.2.1 ro (by omega)]
  · refine b5.keep ?_ ?_
    · rw [K7 12 (by omega) (by omega), F6.2.1 12 (by decide)]
    · rw [K7 rf (by omega) (by omega), F6.2.1 rf (by omega)]
  · refine b6.keep ?_ ?_
    · rw [K7 14 (by omega) (by omega)]
    · rw [K7 rt (by omega) (by omega)]
  · rw [kk x (by omega) (by omega) (by omega) (by omega) (by omega)]
    by_cases hlt : x < w.1.length
    · exact row x hlt (by omega) (by omega) (by omega) (fun y h => hy y (Or.inl h)) (fun y h => hy y (Or.inr h))
    · rw [List.getElem?_eq_none (by omega), List.getElem?_eq_none (by omega)]
  · rw [c7, F6.2.2, F5.2.2, F4.2.2, c3, c2, F1.2.1]
  · rw [l7, F6.1, F5.1, F4.1, n3', n2', len1]
end
