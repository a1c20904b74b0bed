section
variable {w : PW} {z : Nat → Int32} {g : Nat → Nat → Int32} {tw th : Int32} {sz dp nm sy sp : Nat → Int32} {e : Value} {P : List Nat} {rd : Int32}
theorem q_let {α : Type} (a : α) (K : α → PX) : p_let a K = K a := rfl
/-- how many of the first parts are of the tile -/
def q_cnt (tl : Nat → Int32) (t : Int32) : Nat → Nat → Nat
  | 0, _ => 0
  | n + 1, i => (if tl i = t then 1 else 0) + q_cnt tl t n (i + 1)
theorem q_cnt_le (tl : Nat → Int32) (t : Int32) : ∀ n i, q_cnt tl t n i ≤ n
  | 0, _ => Nat.le_refl _
  | n + 1, i => by
    have := q_cnt_le tl t n (i + 1)
    rw [q_cnt]
    split <;> omega
theorem qW_partsOf4 (ho : qCo w rd) (hl : qL w 7 e P) {tl : Nat → Int32} (ht : ∀ (k x : Nat), P[k]? = some x → ∃ fs : List Value, w.1[x]? = some (.inr (8, .int (tl k) :: fs))) (t : Int32) : ∀ (n i F c : Nat), n < F → i + n = P.length → c ≤ i → fW_partsOf_4 F 0 t (Int32.ofNat c) (Int32.ofNat i) w = some (.inl (some (.int (Int32.ofNat (c + q_cnt tl t n i)))), w)
  | 0, i, F + 1, c, _, hi, hc => by
    obtain ⟨fs, hlo⟩ := hl.obj
    rw [fW_partsOf_4, q_getR (k := 1) ho rfl, Option.bind_some, hlo, Option.bind_some, hl.size, q_call, q_kI, if_pos (by rw [show i = P.length by omega]; exact q_lei.mpr (Int.le_refl _))]
    rfl
  | n + 1, i, F + 1, c, hF, hi, hc => by
    have h40 : P.length ≤ 40 := hl.choose_spec.2.1
    obtain ⟨fs, hlo⟩ := hl.obj
    have hx : P[i]? = some P[i] := List.getElem?_eq_getElem (by omega)
    obtain ⟨fs2, hp⟩ := ht i _ hx
    have gi : p_getI w P[i] 8 0 = some (tl i) := q_getI hp rfl
    rw [fW_partsOf_4, q_getR (k := 1) ho rfl, Option.bind_some, hlo, Option.bind_some, hl.size, q_call, q_kI, if_neg (fun hh => by have := (q_le (m := P.length) (n := i) (by omega) (by omega)).mp hh; omega), q_getR (k := 1) ho rfl, Option.bind_some, hlo, Option.bind_some, hl.get i _ hx, q_call, q_kR, q_obj hp, Option.bind_some, gi, Option.bind_some]
    have e1 : Int32.ofNat i + 1 = Int32.ofNat (i + 1) := (Int32.ofNat_add i 1).symm
    have e2 : Int32.ofNat c + 1 = Int32.ofNat (c + 1) := (Int32.ofNat_add c 1).symm
    simp only [q_let]
    rw [e1, e2, q_cnt]
    by_cases h : tl i = t
    · rw [if_neg (not_not_intro h), if_pos h, qW_partsOf4 ho hl ht t n (i + 1) F (c + 1) (by omega) (by omega) (by omega), Nat.add_assoc]
    · rw [if_pos h, if_neg h, qW_partsOf4 ho hl ht t n (i + 1) F c (by omega) (by omega) (by omega), Nat.zero_add]
theorem q_keepF {P : Nat → Prop} {w w' : PW} (h : qF P w w') {x : Nat} (hx : x < w.1.length) (hp : ¬ P x) : w'.1[x]? = w.1[x]? := h.2.1 x hx hp
/-- how a tilePart ends -/
def q_tc (nt : Int) (n : Nat) (t : Int32) : Int32 := if ¬ (0 ≤ t.toInt ∧ t.toInt < nt) then 1 else if 40 ≤ n then 2 else 0
theorem qW_tilePart (ho : qCo w rd) (hs : qS w 1 tw th sz dp nm sy sp) (k : qR tw th sz dp nm sy sp g) (hl : qL w 7 e P) (hel : ∀ y : Nat, .ref y = e → y ≠ 0) {tl : Nat → Int32} (ht : ∀ (k x : Nat), P[k]? = some x → ∃ fs : List Value, w.1[x]? = some (.inr (8, .int (tl k) :: fs))) (t : Int32) :
    (q_tc (q_nt tw th sz) P.length t = 1 → ∃ w', fW_tilePart 0 t w = some (.inr "java/lang/IndexOutOfBoundsException", w') ∧ qT w w') ∧
    (q_tc (q_nt tw th sz) P.length t = 2 → ∃ w', fW_tilePart 0 t w = some (.inr "java/lang/UnsupportedOperationException", w') ∧ qT w w') ∧
    (q_tc (q_nt tw th sz) P.length t = 0 → ∃ w' e', fW_tilePart 0 t w = some (.inl (some (.int (Int32.ofNat P.length))), w') ∧ qL w' 7 e' (P ++ [w.1.length]) ∧ w'.1[w.1.length]? = some (.inr (8, [.int t, .int (Int32.ofNat (q_cnt tl t P.length 0)), .ref (w.1.length + 1), .ref (w.1.length + 2), .int 0])) ∧ w'.1[w.1.length + 1]? = some (.inl (0, 20, .inl fun _ => 0)) ∧ qB w' (w.1.length + 2) (w.1.length + 3) 300 32 [] (fun _ => 0) ∧ qF (fun y => y = 7 ∨ .ref y = e) w w' ∧ (e' = e ∨ ∃ r, e' = .ref r ∧ w.1.length + 4 ≤ r) ∧ w'.2.2 ≤ w.2.2 + 109) := by
  have hnt := k.nt
  have h0 : p_getR w 0 0 0 = some 1 := q_getR ho rfl
  have h1 : p_getR w 0 0 1 = some 7 := q_getR ho rfl
  obtain ⟨fs, hso⟩ := hs.obj
  obtain ⟨fl, hlo⟩ := hl.obj
  have h40 : P.length ≤ 40 := hl.choose_spec.2.1
  have e0 : (0 : Int32).toInt = 0 := rfl
  unfold fW_tilePart fW_tilePart_15 q_tc
  by_cases ht0 : t < 0
  · rw [if_pos ht0, if_pos (by rw [q_lti] at ht0; omega)]
    exact ⟨fun _ => q_throw _ _, fun e => absurd e (by decide), fun e => absurd e (by decide)⟩
  · have ht0' : 0 ≤ t.toInt := by rw [q_lti] at ht0; omega
    rw [if_neg ht0, h0, Option.bind_some, hso, Option.bind_some, hs.tiles, q_call, q_kI]
    have c1 : t < q_many (sz 0) tw * q_many (sz 1) th ↔ t.toInt < q_nt tw th sz := by rw [q_lti, hnt.1]
    by_cases htn : t.toInt < q_nt tw th sz
    · rw [if_pos (c1.mpr htn), if_neg (not_not_intro ⟨ht0', htn⟩), h1, Option.bind_some, hlo, Option.bind_some, hl.size, q_call, q_kI]
      by_cases hf : 40 ≤ P.length
      · rw [if_pos hf, if_neg (fun hh => by have := (q_lt (m := P.length) (n := 40) (by omega) (by omega)).mp hh; omega)]
        exact ⟨fun e => absurd e (by decide), fun _ => q_throw _ _, fun e => absurd e (by decide)⟩
      · rw [if_neg hf, if_pos (show Int32.ofNat P.length < 40 from (q_lt (m := P.length) (n := 40) (by omega) (by omega)).mpr (by omega)), h1, Option.bind_some]
        refine ⟨fun e => absurd e (by decide), fun e => absurd e (by decide), fun _ => ?_⟩
        obtain ⟨w1, g1, s1, F1⟩ := o_newO w 8 5 [.int 0, .int 0, .null, .null, .int 0]
        have l0 : 0 < w.1.length := q_lt_len ho
        have l7 : 7 < w.1.length := q_lt_len hl.choose_spec.1
        have lP : ∀ y, y ∈ P → y < w.1.length := fun y hy => q_lt_len (p_elt_some (hl.choose_spec.2.2.1 y hy)).choose_spec.choose_spec.1
        have le : ∀ y : Nat, .ref y = e → y < w.1.length := fun y hy => by
          rcases hl.choose_spec.2.2.2 with ⟨x1, -⟩ | ⟨r, n, f, x1, hr, -⟩
          · rw [x1] at hy; cases hy
          · rw [x1] at hy
            cases hy
            exact q_lt_len hr
        have ho1 : qCo w1 rd := F1.at ho
        have hl1 : qL w1 7 e P := hl.keep (fun y hy => F1.2.1 y (by
          rcases hy with h | h | h
          · omega
          · exact le y h
          · exact lP y h))
        have ht1 : ∀ (k x : Nat), P[k]? = some x → ∃ fs : List Value, w1.1[x]? = some (.inr (8, .int (tl k) :: fs)) := fun k x hx => by
          obtain ⟨fs, hh⟩ := ht k x hx
          exact ⟨fs, F1.at hh⟩
        have po := qW_partsOf4 ho1 hl1 ht1 t P.length 0 FUEL 0 (by show _ < 1000000; omega) (by omega) (Nat.le_refl _)
        rw [Nat.zero_add] at po
        rw [g1, q_obj ho1, Option.bind_some]
        unfold fW_partsOf
        rw [show (0 : Int32) = Int32.ofNat 0 from rfl, po, q_call, q_kI]
        unfold fTilePart_init
        obtain ⟨w2, g2, s2, F2⟩ := o_newA w1 0 4 20 (by omega) (by omega)
        have L1 := F1.1
        have L2 := F2.1
        rw [show (20 : Int32) = Int32.ofNat 20 from rfl, g2]
        obtain ⟨w3, g3, s3, F3⟩ := o_put (k := 2) (F2.at s1) (by simp) (.ref w1.1.length)
        have L3 := F3.1
        rw [g3, Option.bind_some]
        obtain ⟨w4, g4, s4, F4⟩ := o_newO w3 2 3 [.int 0, .null, .int 0]
        have L4 := F4.1
        rw [show (Int32.ofNat 0) = (0 : Int32) from rfl, g4]
        unfold fBytes_init
        obtain ⟨w5, g5, s5, F5⟩ := o_newA w4 1 1 32 (by omega) (by omega)
        have L5 := F5.1
        rw [show (32 : Int32) = Int32.ofNat 32 from rfl, g5]
        obtain ⟨w6, g6, s6, F6⟩ := o_put (k := 1) (F5.at s4) (by simp) (.ref w4.1.length)
        have L6 := F6.1
        rw [g6, Option.bind_some]
        obtain ⟨w7, g7, s7, F7⟩ := o_put (k := 2) s6 (by simp) (.int 0)
        have L7 := F7.1
        rw [g7, Option.bind_some]
        obtain ⟨w8, g8, s8, F8⟩ := o_put (k := 0) s7 (by simp) (.int 300)
        have L8 := F8.1
        rw [g8, Option.bind_some, q_call, q_kV]
        have x3 := F8.at (F7.at (F6.at (F5.at (F4.at s3)) (by omega)) (by omega)) (by omega)
        obtain ⟨w9, g9, s9, F9⟩ := o_put (k := 3) x3 (by simp) (.ref w3.1.length)
        have L9 := F9.1
        rw [g9, Option.bind_some]
        obtain ⟨wA, gA, sA, FA⟩ := o_put (k := 4) s9 (by simp) (.int 0)
        have LA := FA.1
        rw [gA, Option.bind_some]
        obtain ⟨wB, gB, sB, FB⟩ := o_put (k := 0) sA (by simp) (.int t)
        have LB := FB.1
        rw [gB, Option.bind_some]
        obtain ⟨wC, gC, sC, FC⟩ := o_put (k := 1) sB (by simp) (.int (Int32.ofNat (q_cnt tl t P.length 0)))
        have LC := FC.1
        rw [gC, Option.bind_some, q_call, q_kV]
        have old : ∀ y, y < w.1.length → wC.1[y]? = w.1[y]? := fun y hy => by
          rw [FC.2.1 y (by omega), FB.2.1 y (by omega), FA.2.1 y (by omega), F9.2.1 y (by omega), F8.2.1 y (by omega), F7.2.1 y (by omega), F6.2.1 y (by omega), F5.2.1 y (by omega), F4.2.1 y (by omega), F3.2.1 y (by omega), F2.2.1 y (by omega), F1.2.1 y (by omega)]
        have hlC : qL wC 7 e P := hl.keep (fun y hy => old y (by
          rcases hy with h | h | h
          · omega
          · exact le y h
          · exact lP y h))
        have oC : wC.1[w.1.length]? = some (.inr (8, [.int t, .int (Int32.ofNat (q_cnt tl t P.length 0)), .ref (w.1.length + 1), .ref (w.1.length + 2), .int 0])) := by
          rw [sC]
          show some (Sum.inr (8, [Value.int t, Value.int _, Value.ref w1.1.length, Value.ref w3.1.length, Value.int 0])) = _
          rw [L3, L2, L1]
        have rC : wC.1[w.1.length + 1]? = some (.inl (0, 20, .inl fun _ => 0)) := by
          rw [← L1]
          exact FC.at (FB.at (FA.at (F9.at (F8.at (F7.at (F6.at (F5.at (F4.at (F3.at s2 (by omega)))) (by omega)) (by omega)) (by omega)) (by omega)) (by omega)) (by omega)) (by omega)
        have bC : qB wC (w.1.length + 2) (w.1.length + 3) 300 32 [] (fun _ => 0) := by
          have e1 : w3.1.length = w.1.length + 2 := by omega
          have e2 : w4.1.length = w.1.length + 3 := by omega
          refine ⟨?_, ?_, by simp, by simp, Or.inr (Or.inl rfl), Or.inr (Or.inl rfl), by omega, fun _ => rfl, fun i hi => absurd hi (Nat.not_lt_zero i)⟩
          · rw [← e1, ← e2]
            exact FC.at (FB.at (FA.at (F9.at s8 (by omega)) (by omega)) (by omega)) (by omega)
          · rw [← e2]
            exact FC.at (FB.at (FA.at (F9.at (F8.at (F7.at (F6.at s5 (by omega)) (by omega)) (by omega)) (by omega)) (by omega)) (by omega)) (by omega)
        obtain ⟨flC, hloC⟩ := hlC.obj
        have elC : p_elt wC w.1.length = true := by
          unfold p_elt
          rw [oC]
          rfl
        obtain ⟨wD, e', gD, hlD, FD, eD, cD⟩ := hlC.add w.1.length elC (by omega)
        rw [hloC, Option.bind_some, gD, q_call, q_kI]
        have notE : ∀ y : Nat, w.1.length ≤ y → ¬ (y = 7 ∨ .ref y = e) := fun y hy h => by
          rcases h with h | h
          · omega
          · have := le y h
            omega
        have hoD : qCo wD rd := by
          have : wD.1[0]? = wC.1[0]? := q_keepF FD (by omega) (by rintro (h | h); omega; exact hel 0 h rfl)
          unfold qCo
          rw [this, old 0 l0]
          exact ho
        obtain ⟨flD, hloD⟩ := hlD.obj
        rw [q_getR (k := 1) hoD rfl, Option.bind_some, hloD, Option.bind_some, hlD.size, q_call, q_kI]
        have hsz : Int32.ofNat (P ++ [w.1.length]).length - 1 = Int32.ofNat P.length := by
          rw [List.length_append, show Int32.ofNat (P.length + [w.1.length].length) = Int32.ofNat P.length + 1 from Int32.ofNat_add _ _]
          grind
        rw [hsz]
        refine ⟨wD, e', rfl, hlD, ?_, ?_, ?_, ?_, ?_, ?_⟩
        · rw [q_keepF FD (by omega) (notE _ (Nat.le_refl _)), oC]
        · rw [q_keepF FD (by omega) (notE _ (by omega)), rC]
        · obtain ⟨b1, b2, b3⟩ := bC
          exact ⟨by rw [q_keepF FD (by omega) (notE _ (by omega)), b1], by rw [q_keepF FD (by omega) (notE _ (by omega)), b2], b3⟩
        · refine ⟨by have := FD.1; omega, fun y hy hp => by rw [q_keepF FD (by omega) hp, old y hy], ?_⟩
          have c1 := FD.2.2
          have c2 : wC.2 = w8.2 := by rw [FC.2.2, FB.2.2, FA.2.2, F9.2.2]
          have c3 : w8.2 = w5.2 := by rw [F8.2.2, F7.2.2, F6.2.2]
          have c4 := F5.2.2
          have c5 := F4.2.2
          have c6 : w3.2 = w2.2 := F3.2.2
          have c7 := F2.2.2
          have c8 := F1.2.2
          rw [c2, c3] at c1
          rw [c6] at c5
          omega
        · rcases eD with h | ⟨r, h, hr⟩
          · exact Or.inl h
          · exact Or.inr ⟨r, h, by omega⟩
        · have c2 : wC.2 = w8.2 := by rw [FC.2.2, FB.2.2, FA.2.2, F9.2.2]
          have c3 : w8.2 = w5.2 := by rw [F8.2.2, F7.2.2, F6.2.2]
          have c4 := F5.2.2
          have c5 := F4.2.2
          have c6 : w3.2 = w2.2 := F3.2.2
          have c7 := F2.2.2
          have c8 := F1.2.2
          rw [c2, c3] at cD
          rw [c6] at c5
          omega
    · rw [if_neg (fun hh => htn (c1.mp hh)), if_pos (fun hh => htn hh.2)]
      exact ⟨fun _ => q_throw _ _, fun e => absurd e (by decide), fun e => absurd e (by decide)⟩
end
