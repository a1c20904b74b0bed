def s_til (L : List Int32) (p : Nat) : Int := q_mi (nb4 L (p + 6) : Int) (nb4 L (p + 22) : Int) * q_mi (nb4 L (p + 10) : Int) (nb4 L (p + 26) : Int)
/-- the sides of a stream are right -/
def s_sid (L : List Int32) (p : Nat) : Prop := (1 ≤ nb4 L (p + 6) ∧ nb4 L (p + 6) ≤ 2000) ∧ (1 ≤ nb4 L (p + 10) ∧ nb4 L (p + 10) ≤ 2000) ∧ (1 ≤ nb4 L (p + 22) ∧ nb4 L (p + 22) ≤ 65536) ∧ (1 ≤ nb4 L (p + 26) ∧ nb4 L (p + 26) ≤ 65536) ∧ s_til L p ≤ 24
section
variable {w : PW} {rt nt : Nat} {L : List Int32} {ft : Nat → Int32} {he tw th : Int32} {sz dp nm sy sp : Nat → Int32}
theorem qHR.ast (h : qHR w rt nt L ft he tw th sz dp nm sy sp) (i : Nat) (hi : i < 3) (v : Int32) : ∃ w', p_ast w 17 0 (Int32.ofNat i) v = some w' ∧ qHR w' rt nt L ft he tw th (upd sz i v) dp nm sy sp ∧ qG w w' := by
  obtain ⟨a1, a2, a3, b0, b1, b2, b3, b4, b5, b6⟩ := h
  obtain ⟨w1, g1, s1, F1⟩ := o_ast b1 (q_ge0 i (by omega)) ((q_lt (m := i) (n := 3) (by omega) (by omega)).mpr hi) (by decide) v
  rw [q_tno (by omega)] at s1
  refine ⟨w1, g1, ⟨F1.at a1 (by omega), a2.keep (F1.2.1 14 (by omega)) (F1.2.1 rt (by omega)), a3, F1.at b0 (by omega), s1, F1.at b2 (by omega), F1.at b3 (by omega), F1.at b4 (by omega), F1.at b5 (by omega), b6⟩, F1.1, F1.2.2, fun x hx => F1.2.1 x (by omega)⟩
theorem qHR.put5 (h : qHR w rt nt L ft he tw th sz dp nm sy sp) (v : Int32) : ∃ w', p_put w 16 7 5 (.int v) = some w' ∧ qHR w' rt nt L ft he v th sz dp nm sy sp ∧ qG w w' := by
  obtain ⟨a1, a2, a3, b0, b1, b2, b3, b4, b5, b6⟩ := h
  obtain ⟨w1, g1, s1, F1⟩ := o_put (k := 5) b0 (by simp) (.int v)
  refine ⟨w1, g1, ⟨F1.at a1 (by omega), a2.keep (F1.2.1 14 (by omega)) (F1.2.1 rt (by omega)), a3, s1, F1.at b1 (by omega), F1.at b2 (by omega), F1.at b3 (by omega), F1.at b4 (by omega), F1.at b5 (by omega), b6⟩, F1.1, F1.2.2, fun x hx => F1.2.1 x (by omega)⟩
theorem qHR.put6 (h : qHR w rt nt L ft he tw th sz dp nm sy sp) (v : Int32) : ∃ w', p_put w 16 7 6 (.int v) = some w' ∧ qHR w' rt nt L ft he tw v sz dp nm sy sp ∧ qG w w' := by
  obtain ⟨a1, a2, a3, b0, b1, b2, b3, b4, b5, b6⟩ := h
  obtain ⟨w1, g1, s1, F1⟩ := o_put (k := 6) b0 (by simp) (.int v)
  refine ⟨w1, g1, ⟨F1.at a1 (by omega), a2.keep (F1.2.1 14 (by omega)) (F1.2.1 rt (by omega)), a3, s1, F1.at b1 (by omega), F1.at b2 (by omega), F1.at b3 (by omega), F1.at b4 (by omega), F1.at b5 (by omega), b6⟩, F1.1, F1.2.2, fun x hx => F1.2.1 x (by omega)⟩
theorem qHR.RS (h : qHR w rt nt L ft he tw th sz dp nm sy sp) : p_getR w 16 7 0 = some 17 := q_getR (k := 0) h.2.2.2.1 rfl
theorem qHR.n4 (h : qHR w rt nt L ft he tw th sz dp nm sy sp) (p : Nat) (hp : p ≤ 1000000) : fBytes_number 14 (Int32.ofNat p) 4 w = some (.inl (some (.long (Int64.ofNat (nb4 L p)))), w) := by
  rw [h.2.1.num4, q_num4 h.2.1.by p (by omega)]
theorem qHR.n2 (h : qHR w rt nt L ft he tw th sz dp nm sy sp) (p : Nat) (hp : p ≤ 1000000) : fBytes_number 14 (Int32.ofNat p) 2 w = some (.inl (some (.long (Int64.ofNat (nb2 L p)))), w) := by
  rw [h.2.1.num2, q_num2 h.2.1.by p (by omega)]
theorem q_side (v : Nat) (hv : v < 4294967296) (w : PW) : fHeadReader_isTileSide (Int64.ofNat v) w = some (.inl (some (.int (if 1 ≤ v ∧ v ≤ 65536 then 1 else 0))), w) := by
  have c1 : lg_cmp (Int64.ofNat v) 1 < 0 ↔ v < 1 := q_c64l (x := v) (y := 1) (by omega) (by omega)
  have c2 : 0 < lg_cmp (Int64.ofNat v) 65536 ↔ 65536 < v := q_c64g (x := v) (y := 65536) (by omega) (by omega)
  unfold fHeadReader_isTileSide
  by_cases a : v < 1
  · rw [if_pos (c1.mpr a), if_neg (by omega)]
    rfl
  · rw [if_neg (fun x => a (c1.mp x))]
    by_cases b : 65536 < v
    · rw [if_pos (c2.mpr b), if_neg (by omega)]
      rfl
    · rw [if_neg (fun x => b (c2.mp x)), if_pos (by omega)]
      rfl
theorem qHR.sides (h : qHR w rt nt L ft he tw th sz dp nm sy sp) (p : Nat) (hp : p ≤ 20000) : ∃ w' tw' th' sz' v, fHeadReader_keepSides 27 (Int32.ofNat p) w = some (.inl (some (.int v)), w') ∧ qHR w' rt nt L ft he tw' th' sz' dp nm sy sp ∧ qG w w' ∧ (v = 0 ∨ v = 1) ∧ (v = 0 ↔ ¬ s_sid L p) ∧ (v = 1 → tw' = Int32.ofNat (nb4 L (p + 22)) ∧ th' = Int32.ofNat (nb4 L (p + 26)) ∧ sz' 0 = Int32.ofNat (nb4 L (p + 6)) ∧ sz' 1 = Int32.ofNat (nb4 L (p + 10))) := by
  have hL := h.2.1.by
  obtain ⟨f14, o14⟩ := h.O14
  have e : ∀ i : Nat, Int32.ofNat p + Int32.ofNat i = Int32.ofNat (p + i) := fun i => (Int32.ofNat_add _ _).symm
  have l6 := nb4_lt hL (p + 6)
  have l10 := nb4_lt hL (p + 10)
  have l22 := nb4_lt hL (p + 22)
  have l26 := nb4_lt hL (p + 26)
  have d01 : ¬ (0 : Int32) = 1 := by decide
  have d10 : ¬ (1 : Int32) = 0 := by decide
  have bad : ¬ s_sid L p → ∀ (w' : PW) (tw' th' : Int32) (sz' : Nat → Int32), qHR w' rt nt L ft he tw' th' sz' dp nm sy sp → qG w w' → ∃ w'' tw'' th'' sz'' v, p_retZ 0 w' = some (.inl (some (.int v)), w'') ∧ qHR w'' rt nt L ft he tw'' th'' sz'' dp nm sy sp ∧ qG w w'' ∧ (v = 0 ∨ v = 1) ∧ (v = 0 ↔ ¬ s_sid L p) ∧ (v = 1 → tw'' = Int32.ofNat (nb4 L (p + 22)) ∧ th'' = Int32.ofNat (nb4 L (p + 26)) ∧ sz'' 0 = Int32.ofNat (nb4 L (p + 6)) ∧ sz'' 1 = Int32.ofNat (nb4 L (p + 10))) := fun hn w' tw' th' sz' h' g' => ⟨w', tw', th', sz', 0, rfl, h', g', Or.inl rfl, ⟨fun _ => hn, fun _ => rfl⟩, fun y => absurd y d01⟩
  have w0 : q_within 0 (Int64.ofNat (nb4 L (p + 6))) = if 1 ≤ nb4 L (p + 6) ∧ nb4 L (p + 6) ≤ 2000 then 1 else 0 := q_wn (k := 0) _ (by omega) (by decide) (by decide) (by omega) (by omega) (by omega)
  have w1 : q_within 1 (Int64.ofNat (nb4 L (p + 10))) = if 1 ≤ nb4 L (p + 10) ∧ nb4 L (p + 10) ≤ 2000 then 1 else 0 := q_wn (k := 1) _ (by omega) (by decide) (by decide) (by omega) (by omega) (by omega)
  unfold fHeadReader_keepSides
  rw [h.R0, Option.bind_some, o14, Option.bind_some, show Int32.ofNat p + 6 = _ from e 6, h.n4 (p + 6) (by omega), q_call, q_kJ, h.R0, Option.bind_some, o14, Option.bind_some, show Int32.ofNat p + 10 = _ from e 10, h.n4 (p + 10) (by omega), q_call, q_kJ, h.R0, Option.bind_some, o14, Option.bind_some, show Int32.ofNat p + 22 = _ from e 22, h.n4 (p + 22) (by omega), q_call, q_kJ, h.R0, Option.bind_some, o14, Option.bind_some, show Int32.ofNat p + 26 = _ from e 26, h.n4 (p + 26) (by omega), q_call, q_kJ, q_isWithin, q_call, q_kI]
  by_cases a0 : 1 ≤ nb4 L (p + 6) ∧ nb4 L (p + 6) ≤ 2000
  · rw [w0.trans (if_pos a0), if_neg d10, q_isWithin, q_call, q_kI]
    by_cases a1 : 1 ≤ nb4 L (p + 10) ∧ nb4 L (p + 10) ≤ 2000
    · rw [w1.trans (if_pos a1), if_neg d10, q_side _ l22, q_call, q_kI]
      by_cases a2 : 1 ≤ nb4 L (p + 22) ∧ nb4 L (p + 22) ≤ 65536
      · rw [if_pos a2, if_neg d10, q_side _ l26, q_call, q_kI]
        by_cases a3 : 1 ≤ nb4 L (p + 26) ∧ nb4 L (p + 26) ≤ 65536
        · rw [if_pos a3, if_pos d10, h.R1, Option.bind_some, h.RS, Option.bind_some, q_32n, q_32n, q_32n, q_32n]
          obtain ⟨u1, g1, h1, F1⟩ := h.ast 0 (by omega) (Int32.ofNat (nb4 L (p + 6)))
          rw [show p_ast w 17 0 0 (Int32.ofNat (nb4 L (p + 6))) = _ from g1, Option.bind_some, h1.R1, Option.bind_some, h1.RS, Option.bind_some]
          obtain ⟨u2, g2, h2, F2⟩ := h1.ast 1 (by omega) (Int32.ofNat (nb4 L (p + 10)))
          rw [show p_ast u1 17 0 1 (Int32.ofNat (nb4 L (p + 10))) = _ from g2, Option.bind_some, h2.R1, Option.bind_some]
          obtain ⟨u3, g3, h3, F3⟩ := h2.put5 (Int32.ofNat (nb4 L (p + 22)))
          rw [g3, Option.bind_some, h3.R1, Option.bind_some]
          obtain ⟨u4, g4, h4, F4⟩ := h3.put6 (Int32.ofNat (nb4 L (p + 26)))
          obtain ⟨f4, o4⟩ := h4.O16
          rw [g4, Option.bind_some, h4.R1, Option.bind_some, o4, Option.bind_some, h4.2.2.2.tiles, q_call, q_kI]
          have F := ((F1.tr F2).tr F3).tr F4
          have s0 : (upd (upd sz 0 (Int32.ofNat (nb4 L (p + 6)))) 1 (Int32.ofNat (nb4 L (p + 10)))) 0 = Int32.ofNat (nb4 L (p + 6)) := rfl
          have s1 : (upd (upd sz 0 (Int32.ofNat (nb4 L (p + 6)))) 1 (Int32.ofNat (nb4 L (p + 10)))) 1 = Int32.ofNat (nb4 L (p + 10)) := rfl
          rw [s0, s1]
          have m0 := q_many_i (x := Int32.ofNat (nb4 L (p + 6))) (s := Int32.ofNat (nb4 L (p + 22))) (by rw [q_ofi (by omega)]; omega) (by rw [q_ofi (by omega)]; omega) (by rw [q_ofi (by omega)]; omega) (by rw [q_ofi (by omega)]; omega)
          have m1 := q_many_i (x := Int32.ofNat (nb4 L (p + 10))) (s := Int32.ofNat (nb4 L (p + 26))) (by rw [q_ofi (by omega)]; omega) (by rw [q_ofi (by omega)]; omega) (by rw [q_ofi (by omega)]; omega) (by rw [q_ofi (by omega)]; omega)
          rw [q_ofi (by omega), q_ofi (by omega)] at m0 m1
          have b0 := q_mi_b (x := (nb4 L (p + 6) : Int)) (s := (nb4 L (p + 22) : Int)) (by omega) (by omega)
          have b1 := q_mi_b (x := (nb4 L (p + 10) : Int)) (s := (nb4 L (p + 26) : Int)) (by omega) (by omega)
          generalize q_many (Int32.ofNat (nb4 L (p + 6))) (Int32.ofNat (nb4 L (p + 22))) = M0 at m0 ⊢
          generalize q_many (Int32.ofNat (nb4 L (p + 10))) (Int32.ofNat (nb4 L (p + 26))) = M1 at m1 ⊢
          have hp1 : q_mi (nb4 L (p + 6) : Int) (nb4 L (p + 22) : Int) * q_mi (nb4 L (p + 10) : Int) (nb4 L (p + 26) : Int) ≤ 2000 * 2000 := Int.mul_le_mul (by omega) (by omega) (by omega) (by omega)
          have hp0 : 0 ≤ q_mi (nb4 L (p + 6) : Int) (nb4 L (p + 22) : Int) * q_mi (nb4 L (p + 10) : Int) (nb4 L (p + 26) : Int) := Int.mul_nonneg (by omega) (by omega)
          have hm : (M0 * M1).toInt = s_til L p := by
            unfold s_til
            rw [q_mul (by rw [m0, m1]; omega) (by rw [m0, m1]; omega), m0, m1]
          have c24 : (24 : Int32) < M0 * M1 ↔ 24 < s_til L p := by
            rw [q_lti, hm]
            rfl
          by_cases a4 : s_til L p ≤ 24
          · rw [if_neg (fun y => by have := c24.mp y; omega)]
            exact ⟨u4, _, _, _, 1, rfl, h4, F, Or.inr rfl, ⟨fun y => absurd y d10, fun y => absurd ⟨a0, a1, a2, a3, a4⟩ y⟩, fun _ => ⟨rfl, rfl, s0, s1⟩⟩
          · rw [if_pos (c24.mpr (by omega))]
            exact bad (fun y => a4 y.2.2.2.2) u4 _ _ _ h4 F
        · rw [if_neg a3, if_neg (not_not_intro rfl)]
          exact bad (fun y => a3 y.2.2.2.1) w _ _ _ h qG.rf
      · rw [if_neg a2, if_pos rfl]
        exact bad (fun y => a2 y.2.2.1) w _ _ _ h qG.rf
    · rw [w1.trans (if_neg a1), if_pos rfl]
      exact bad (fun y => a1 y.2.1) w _ _ _ h qG.rf
  · rw [w0.trans (if_neg a0), if_pos rfl]
    exact bad (fun y => a0 y.1) w _ _ _ h qG.rf
end
def s_dp1 (L : List Int32) (q c : Nat) : Prop := nb L (q + 3 * c) ≤ 15 ∧ nb2 L (q + 3 * c + 1) = 257
section
variable {w : PW} {rt nt : Nat} {L : List Int32} {ft : Nat → Int32} {he tw th : Int32} {sz dp nm sy sp : Nat → Int32}
theorem qHR.depth (h : qHR w rt nt L ft he tw th sz dp nm sy sp) (c v : Int32) : ∃ w' dp', fSettings_changeDepth 16 c v w = some (.inl none, w') ∧ qHR w' rt nt L ft he tw th sz dp' nm sy sp ∧ qG w w' := by
  obtain ⟨a1, a2, a3, a4⟩ := h
  obtain ⟨w1, g1, q1, F1⟩ := a4.changeDepth c v
  exact ⟨w1, _, g1, ⟨F1.at a1 (by omega), a2.keep (F1.2.2 14 (by omega)) (F1.2.2 rt (by omega)), a3, q1⟩, F1.g⟩
theorem qHR.dp12 (q many : Nat) (hm : many ≤ 4) (hq : q + 3 * many ≤ L.length) : ∀ (n c F : Nat) (w : PW) (dp : Nat → Int32), qHR w rt nt L ft he tw th sz dp nm sy sp → n < F → c + n = many → ∃ w' dp' v, fHeadReader_keepDepths_12 F 27 (Int32.ofNat q) (Int32.ofNat many) (Int32.ofNat c) w = some (.inl (some (.int v)), w') ∧ qHR w' rt nt L ft he tw th sz dp' nm sy sp ∧ qG w w' ∧ (v = 0 ∨ v = 1) ∧ (v = 0 ↔ ¬ ∀ k, c ≤ k → k < many → s_dp1 L q k)
  | 0, c, F + 1, w, dp, h, _, hc => by
    rw [fHeadReader_keepDepths_12, if_pos ((q_of_le (by omega) (by omega)).mpr (by omega))]
    exact ⟨w, dp, 1, rfl, h, qG.rf, Or.inr rfl, fun y => absurd y (by decide), fun y => absurd (fun k k1 k2 => by omega) y⟩
  | n + 1, c, F + 1, w, dp, h, hn, hc => by
    have hb := h.2.1
    have hl : L.length ≤ 20000 := hb.2.2.2.1
    obtain ⟨f14, o14⟩ := h.O14
    obtain ⟨f16, o16⟩ := h.O16
    have n0 := nb_le hb.by (q + 3 * c)
    have n1 := nb2_lt hb.by (q + 3 * c + 1)
    have d10 : ¬ (1 : Int32) = 0 := by decide
    have e3 : Int32.ofNat q + 3 * Int32.ofNat c = Int32.ofNat (q + 3 * c) := by
      rw [show Int32.ofNat (q + 3 * c) = Int32.ofNat q + Int32.ofNat (3 * c) from Int32.ofNat_add _ _, show Int32.ofNat (3 * c) = 3 * Int32.ofNat c from Int32.ofNat_mul 3 c]
    have w3 : q_within 3 (Int32.toInt64 (Int32.ofNat (nb L (q + 3 * c) + 1))) = if 1 ≤ nb L (q + 3 * c) + 1 ∧ nb L (q + 3 * c) + 1 ≤ 16 then 1 else 0 := q_wi (k := 3) _ (by omega) (by decide) (by decide) (by omega) (by omega) (by omega)
    have c257 : lg_cmp (Int64.ofNat (nb2 L (q + 3 * c + 1))) 257 = 0 ↔ nb2 L (q + 3 * c + 1) = 257 := q_c64e (y := 257) (by omega) (by omega)
    rw [fHeadReader_keepDepths_12, if_neg (fun hh => by have := (q_of_le (by omega) (by omega)).mp hh; omega), h.R0, Option.bind_some, o14, Option.bind_some, e3, hb.gn (q + 3 * c) (by omega), q_call, q_kI, q_let, show Int32.ofNat (nb L (q + 3 * c)) + 1 = Int32.ofNat (nb L (q + 3 * c) + 1) from (Int32.ofNat_add _ 1).symm, q_isWithin, q_call, q_kI]
    by_cases a1 : nb L (q + 3 * c) ≤ 15
    · rw [w3.trans (if_pos ⟨by omega, by omega⟩), if_neg d10, h.R0, Option.bind_some, o14, Option.bind_some, show Int32.ofNat (q + 3 * c) + 1 = Int32.ofNat (q + 3 * c + 1) from (Int32.ofNat_add _ 1).symm, h.n2 (q + 3 * c + 1) (by omega), q_call, q_kJ]
      by_cases a2 : nb2 L (q + 3 * c + 1) = 257
      · obtain ⟨w1, d1, g1, h1, F1⟩ := h.depth (Int32.ofNat c) (Int32.ofNat (nb L (q + 3 * c) + 1))
        rw [if_pos (c257.mpr a2), h.R1, Option.bind_some, o16, Option.bind_some, g1, q_call, q_kV, q_let, show Int32.ofNat c + 1 = Int32.ofNat (c + 1) from (Int32.ofNat_add c 1).symm]
        obtain ⟨w2, d2, v, g2, h2, F2, v2, i2⟩ := qHR.dp12 q many hm hq n (c + 1) F w1 d1 h1 (by omega) (by omega)
        refine ⟨w2, d2, v, g2, h2, F1.tr F2, v2, i2.trans ⟨fun y z => y (fun k k1 k2 => z k (by omega) k2), fun y z => y (fun k k1 k2 => ?_)⟩⟩
        by_cases hk : k = c
        · rw [hk]
          exact ⟨a1, a2⟩
        · exact z k (by omega) k2
      · rw [if_neg (fun y => a2 (c257.mp y))]
        exact ⟨w, dp, 0, rfl, h, qG.rf, Or.inl rfl, fun _ z => a2 (z c (Nat.le_refl _) (by omega)).2, fun _ => rfl⟩
    · rw [w3.trans (if_neg (fun y => a1 (by omega))), if_pos rfl]
      exact ⟨w, dp, 0, rfl, h, qG.rf, Or.inl rfl, fun _ z => a1 (z c (Nat.le_refl _) (by omega)).1, fun _ => rfl⟩
/-- the sizes of a stream are right -/
def s_siz (L : List Int32) (p x : Nat) : Prop := (1 ≤ nb2 L (p + 38) ∧ nb2 L (p + 38) ≤ 4) ∧ x = p + 40 + 3 * nb2 L (p + 38) ∧ (nb2 L (p + 4) = 0 ∧ nb4 L (p + 14) = 0 ∧ nb4 L (p + 18) = 0 ∧ nb4 L (p + 30) = 0 ∧ nb4 L (p + 34) = 0) ∧ s_sid L p ∧ ∀ k, k < nb2 L (p + 38) → s_dp1 L (p + 40) k
theorem qHR.sizes (h : qHR w rt nt L ft he tw th sz dp nm sy sp) (p x : Nat) (hp : p + 4 ≤ x) (hx : x ≤ L.length) : ∃ w' tw' th' sz' dp' v, fHeadReader_keepSizes 27 (Int32.ofNat p) (Int32.ofNat x) w = some (.inl (some (.int v)), w') ∧ qHR w' rt nt L ft he tw' th' sz' dp' nm sy sp ∧ qG w w' ∧ (v = 0 ∨ v = 1) ∧ (v = 0 ↔ ¬ s_siz L p x) ∧ (v = 1 → tw' = Int32.ofNat (nb4 L (p + 22)) ∧ th' = Int32.ofNat (nb4 L (p + 26)) ∧ sz' 0 = Int32.ofNat (nb4 L (p + 6)) ∧ sz' 1 = Int32.ofNat (nb4 L (p + 10)) ∧ sz' 2 = Int32.ofNat (nb2 L (p + 38))) := by
  have hb := h.2.1
  have hL := hb.by
  have hl : L.length ≤ 20000 := hb.2.2.2.1
  obtain ⟨f14, o14⟩ := h.O14
  obtain ⟨f27, o27⟩ := h.O27
  have e : ∀ i : Nat, Int32.ofNat p + Int32.ofNat i = Int32.ofNat (p + i) := fun i => (Int32.ofNat_add _ _).symm
  have l38 := nb2_lt hL (p + 38)
  have l4 := nb2_lt hL (p + 4)
  have l14 := nb4_lt hL (p + 14)
  have l18 := nb4_lt hL (p + 18)
  have l30 := nb4_lt hL (p + 30)
  have l34 := nb4_lt hL (p + 34)
  have d01 : ¬ (0 : Int32) = 1 := by decide
  have d10 : ¬ (1 : Int32) = 0 := by decide
  have bad : ¬ s_siz L p x → ∀ (w' : PW) (tw' th' : Int32) (sz' dp' : Nat → Int32), qHR w' rt nt L ft he tw' th' sz' dp' nm sy sp → qG w w' → ∃ w'' tw'' th'' sz'' dp'' v, p_retZ 0 w' = some (.inl (some (.int v)), w'') ∧ qHR w'' rt nt L ft he tw'' th'' sz'' dp'' nm sy sp ∧ qG w w'' ∧ (v = 0 ∨ v = 1) ∧ (v = 0 ↔ ¬ s_siz L p x) ∧ (v = 1 → tw'' = Int32.ofNat (nb4 L (p + 22)) ∧ th'' = Int32.ofNat (nb4 L (p + 26)) ∧ sz'' 0 = Int32.ofNat (nb4 L (p + 6)) ∧ sz'' 1 = Int32.ofNat (nb4 L (p + 10)) ∧ sz'' 2 = Int32.ofNat (nb2 L (p + 38))) := fun hn w' tw' th' sz' dp' h' g' => ⟨w', tw', th', sz', dp', 0, rfl, h', g', Or.inl rfl, ⟨fun _ => hn, fun _ => rfl⟩, fun y => absurd y d01⟩
  have w2 : q_within 2 (Int64.ofNat (nb2 L (p + 38))) = if 1 ≤ nb2 L (p + 38) ∧ nb2 L (p + 38) ≤ 4 then 1 else 0 := q_wn (k := 2) _ (by omega) (by decide) (by decide) (by omega) (by omega) (by omega)
  have z0 : ∀ v : Nat, v < 4294967296 → (lg_cmp (Int64.ofNat v) 0 = 0 ↔ v = 0) := fun v hv => q_c64e (x := v) (y := 0) (by omega) (by omega)
  unfold fHeadReader_keepSizes
  rw [h.R0, Option.bind_some, o14, Option.bind_some, show Int32.ofNat p + 38 = _ from e 38, h.n2 (p + 38) (by omega), q_call, q_kJ, q_isWithin, q_call, q_kI, q_subn (by omega) (by omega), q_32n]
  by_cases a0 : 1 ≤ nb2 L (p + 38) ∧ nb2 L (p + 38) ≤ 4
  · have e40 : (40 : Int32) + 3 * Int32.ofNat (nb2 L (p + 38)) = Int32.ofNat (40 + 3 * nb2 L (p + 38)) := by
      rw [show Int32.ofNat (40 + 3 * nb2 L (p + 38)) = 40 + Int32.ofNat (3 * nb2 L (p + 38)) from Int32.ofNat_add 40 _, show Int32.ofNat (3 * nb2 L (p + 38)) = 3 * Int32.ofNat (nb2 L (p + 38)) from Int32.ofNat_mul 3 _]
    have cx : Int32.ofNat (x - p) = Int32.ofNat (40 + 3 * nb2 L (p + 38)) ↔ x - p = 40 + 3 * nb2 L (p + 38) := q_of32 (by omega) (by omega)
    rw [w2.trans (if_pos a0), if_neg d10, e40]
    by_cases a1 : x = p + 40 + 3 * nb2 L (p + 38)
    · have zb : ∀ (wz : PW), wz = w → fHeadReader_keepSizes_125 27 (Int32.ofNat p) (Int64.ofNat (nb2 L (p + 38))) 0 wz = p_retZ 0 w := fun wz hz => by
        unfold fHeadReader_keepSizes_125
        rw [if_pos rfl, hz]
      rw [if_pos (cx.mpr (by omega)), h.R0, Option.bind_some, o14, Option.bind_some, show Int32.ofNat p + 4 = _ from e 4, h.n2 (p + 4) (by omega), q_call, q_kJ]
      by_cases b1 : nb2 L (p + 4) = 0
      · rw [if_neg (not_not_intro ((z0 _ (by omega)).mpr b1)), h.R0, Option.bind_some, o14, Option.bind_some, show Int32.ofNat p + 14 = _ from e 14, h.n4 (p + 14) (by omega), q_call, q_kJ]
        by_cases b2 : nb4 L (p + 14) = 0
        · rw [if_neg (not_not_intro ((z0 _ (by omega)).mpr b2)), h.R0, Option.bind_some, o14, Option.bind_some, show Int32.ofNat p + 18 = _ from e 18, h.n4 (p + 18) (by omega), q_call, q_kJ]
          by_cases b3 : nb4 L (p + 18) = 0
          · rw [if_neg (not_not_intro ((z0 _ (by omega)).mpr b3)), h.R0, Option.bind_some, o14, Option.bind_some, show Int32.ofNat p + 30 = _ from e 30, h.n4 (p + 30) (by omega), q_call, q_kJ]
            by_cases b4 : nb4 L (p + 30) = 0
            · rw [if_neg (not_not_intro ((z0 _ (by omega)).mpr b4)), h.R0, Option.bind_some, o14, Option.bind_some, show Int32.ofNat p + 34 = _ from e 34, h.n4 (p + 34) (by omega), q_call, q_kJ]
              by_cases b5 : nb4 L (p + 34) = 0
              · rw [if_neg (not_not_intro ((z0 _ (by omega)).mpr b5))]
                unfold fHeadReader_keepSizes_125
                obtain ⟨u1, t1, t2, s1, v1, g1, h1, F1, k1, k2, k3⟩ := h.sides p (by omega)
                obtain ⟨f1, o1'⟩ := h1.O27
                rw [if_neg d10, o27, Option.bind_some, g1, q_call, q_kI]
                rcases k1 with hv | hv
                · rw [hv, if_pos rfl]
                  exact bad (fun y => k2.mp hv y.2.2.2.1) u1 _ _ _ _ h1 F1
                · have sid : s_sid L p := Classical.byContradiction fun y => d01 ((k2.mpr y).symm.trans hv)
                  rw [hv, if_neg d10, o1', Option.bind_some, show Int32.ofNat p + 40 = _ from e 40, q_32n]
                  unfold fHeadReader_keepDepths
                  obtain ⟨u2, g2, h2, F2⟩ := h1.ast 2 (by omega) (Int32.ofNat (nb2 L (p + 38)))
                  rw [h1.R1, Option.bind_some, h1.RS, Option.bind_some, show p_ast u1 17 0 2 (Int32.ofNat (nb2 L (p + 38))) = _ from g2, Option.bind_some]
                  obtain ⟨u3, d3, v3, g3, h3, F3, j1, j2⟩ := qHR.dp12 (p + 40) (nb2 L (p + 38)) (by omega) (by omega) (nb2 L (p + 38)) 0 FUEL u2 dp h2 (by show _ < 1000000; omega) (by omega)
                  rw [show fHeadReader_keepDepths_12 FUEL 27 (Int32.ofNat (p + 40)) (Int32.ofNat (nb2 L (p + 38))) 0 u2 = _ from g3, q_call, q_kI]
                  obtain ⟨r1, r2, r3, r4⟩ := k3 hv
                  rcases j1 with jv | jv
                  · rw [jv, if_pos rfl]
                    exact bad (fun y => j2.mp jv (fun k _ kk => y.2.2.2.2 k kk)) u3 _ _ _ _ h3 ((F1.tr F2).tr F3)
                  · have dps : ∀ k, 0 ≤ k → k < nb2 L (p + 38) → s_dp1 L (p + 40) k := Classical.byContradiction fun y => d01 ((j2.mpr y).symm.trans jv)
                    rw [jv, if_neg d10]
                    exact ⟨u3, _, _, _, _, 1, rfl, h3, (F1.tr F2).tr F3, Or.inr rfl, ⟨fun y => absurd y d10, fun y => absurd ⟨a0, a1, ⟨b1, b2, b3, b4, b5⟩, sid, fun k kk => dps k (Nat.zero_le k) kk⟩ y⟩, fun _ => ⟨r1, r2, r3, r4, rfl⟩⟩
              · rw [if_pos (fun y => b5 ((z0 _ (by omega)).mp y)), zb w rfl]
                exact bad (fun y => b5 y.2.2.1.2.2.2.2) w _ _ _ _ h qG.rf
            · rw [if_pos (fun y => b4 ((z0 _ (by omega)).mp y)), zb w rfl]
              exact bad (fun y => b4 y.2.2.1.2.2.2.1) w _ _ _ _ h qG.rf
          · rw [if_pos (fun y => b3 ((z0 _ (by omega)).mp y)), zb w rfl]
            exact bad (fun y => b3 y.2.2.1.2.2.1) w _ _ _ _ h qG.rf
        · rw [if_pos (fun y => b2 ((z0 _ (by omega)).mp y)), zb w rfl]
          exact bad (fun y => b2 y.2.2.1.2.1) w _ _ _ _ h qG.rf
      · rw [if_pos (fun y => b1 ((z0 _ (by omega)).mp y)), zb w rfl]
        exact bad (fun y => b1 y.2.2.1.1) w _ _ _ _ h qG.rf
    · rw [if_neg (fun y => a1 (by have := cx.mp y; omega))]
      exact bad (fun y => a1 y.2.1) w _ _ _ _ h qG.rf
  · rw [w2.trans (if_neg a0), if_pos rfl]
    exact bad (fun y => a0 y.1) w _ _ _ _ h qG.rf
end
def s_sgmB (L : List Int32) (many p x : Nat) : Bool := decide ((nb L (p + 1) = 82 → x = p + 14 ∧ (nb L (p + 4) = 0 ∧ nb L (p + 5) ≤ 4 ∧ 1 ≤ nb2 L (p + 6) ∧ nb2 L (p + 6) ≤ 1000) ∧ (nb L (p + 8) = 0 ∧ nb L (p + 8 + 3) = nb L (p + 8 + 2) ∧ nb L (p + 8 + 4) = 0 ∧ nb L (p + 8 + 1) ≤ 5 ∧ nb L (p + 8 + 2) ≤ 4 ∧ nb L (p + 8 + 5) ≤ 1)) ∧ (nb L (p + 1) = 83 → x = p + 11 ∧ nb L (p + 4) < many ∧ (nb L (p + 5) = 0 ∧ nb L (p + 5 + 3) = nb L (p + 5 + 2) ∧ nb L (p + 5 + 4) = 0 ∧ nb L (p + 5 + 1) ≤ 5 ∧ nb L (p + 5 + 2) ≤ 4 ∧ nb L (p + 5 + 5) ≤ 1)) ∧ (nb L (p + 1) = 92 → x = p + 7 ∧ (nb L (p + 4) % 32 = 1 ∧ nb2 L (p + 4 + 1) % 2048 = 0)) ∧ (nb L (p + 1) = 93 → x = p + 8 ∧ nb L (p + 4) < many ∧ (nb L (p + 5) % 32 = 1 ∧ nb2 L (p + 5 + 1) % 2048 = 0)))
theorem s_sgmB_iff (L : List Int32) (many p x : Nat) : s_sgmB L many p x = true ↔ s_sgm L many p x := by
  unfold s_sgmB
  exact decide_eq_true_iff
/-- the rest of a stream's head: what is broken, where it ends -/
def s_hd (L : List Int32) (to many : Nat) : Nat → Nat → Bool → Bool → Option Nat × Nat
  | 0, p, _, _ => (some p, p)
  | f + 1, p, a, b => if (p + 2 ≤ to ∧ nb L p = 255 ∧ nb L (p + 1) = 144) ∨ (p + 2 ≤ to ∧ nb L p = 255 ∧ nb L (p + 1) = 217) then (if a = true ∧ b = true then (none, p) else (some p, p)) else
    match s_seg L p to with
    | none => (some p, p)
    | some x => if s_sgmB L many p x = true then s_hd L to many f x (a || decide (nb L (p + 1) = 82)) (b || decide (nb L (p + 1) = 92)) else (some p, p)
section
variable {w : PW} {rt nt : Nat} {L : List Int32} {ft : Nat → Int32} {he tw th : Int32} {sz dp nm sy sp : Nat → Int32}
theorem qHR.put2 (h : qHR w rt nt L ft he tw th sz dp nm sy sp) (v : Int32) : ∃ w', p_put w 27 3 2 (.int v) = some w' ∧ qHR w' rt nt L ft v tw th sz dp nm sy sp ∧ qG w w' := by
  obtain ⟨a1, a2, a3, a4⟩ := h
  obtain ⟨w1, g1, s1, F1⟩ := o_put (k := 2) a1 (by simp) (.int v)
  exact ⟨w1, g1, ⟨s1, a2.keep (F1.2.1 14 (by omega)) (F1.2.1 rt (by omega)), a3, a4.keep (fun x h1 h2 => F1.2.1 x (by omega))⟩, F1.g⟩
theorem qHR.h96 (h : qHR w rt nt L ft he tw th sz dp nm sy sp) (p : Nat) (a b : Bool) (ha : sy 0 = 0 ↔ a = false) (hb : sp 0 = 0 ↔ b = false) : ∃ w', fHeadReader_readHead_96 27 (Int32.ofNat p) w = some (.inl (some (.int (oN (if a = true ∧ b = true then none else some p)))), w') ∧ qHR w' rt nt L ft (Int32.ofNat p) tw th sz dp nm sy sp ∧ qG w w' := by
  unfold fHeadReader_readHead_96
  obtain ⟨w1, g1, h1, F1⟩ := h.put2 (Int32.ofNat p)
  obtain ⟨f1, o1'⟩ := h1.O16
  rw [g1, Option.bind_some, h1.R1, Option.bind_some, o1', Option.bind_some, h1.2.2.2.both, q_call, q_kI]
  refine ⟨w1, ?_, h1, F1⟩
  cases a
  · rw [if_pos (ha.mpr rfl), if_pos rfl, if_neg (by simp)]
    rfl
  · have s0 : ¬ sy 0 = 0 := fun y => by have := ha.mp y; cases this
    rw [if_neg s0]
    cases b
    · rw [if_pos (hb.mpr rfl), if_pos rfl, if_neg (by simp)]
      rfl
    · have p0 : ¬ sp 0 = 0 := fun y => by have := hb.mp y; cases this
      rw [if_neg p0, if_neg (by decide), if_pos ⟨rfl, rfl⟩]
      rfl
theorem qHR.h61 (to many : Nat) (hto : to ≤ L.length) (hm : sz 2 = Int32.ofNat many) (hm4 : many ≤ 4) : ∀ (f p q n F : Nat) (w : PW) (he : Int32) (nm sy sp : Nat → Int32) (a b : Bool), qHR w rt nt L ft he tw th sz dp nm sy sp → (sy 0 = 0 ↔ a = false) → (sp 0 = 0 ↔ b = false) → p ≤ to → to < p + 4 * f → f < F → n + f ≤ 19000 → ∃ w' he' nm' sy' sp', fHeadReader_readHead_61 F 27 (Int32.ofNat to) (Int32.ofNat q) (Int32.ofNat p) (Int32.ofNat n) w = some (.inl (some (.int (oN (s_hd L to many f p a b).1))), w') ∧ qHR w' rt nt L ft he' tw th sz dp nm' sy' sp' ∧ qG w w' ∧ ((s_hd L to many f p a b).1 = none → he' = Int32.ofNat (s_hd L to many f p a b).2 ∧ (s_hd L to many f p a b).2 ≤ to)
  | 0, p, q, n, F, w, he, nm, sy, sp, a, b, h, ha, hb, hp, hf, _, _ => by omega
  | f + 1, p, q, n, F + 1, w, he, nm, sy, sp, a, b, h, ha, hb, hp, hf, hF, hn => by
    have hl : L.length ≤ 20000 := h.2.1.2.2.2.1
    obtain ⟨f27, o27⟩ := h.O27
    have c2 : ¬ (20000 : Int32) ≤ Int32.ofNat n := fun hh => by
      have := (q_of_le (m := 20000) (n := n) (by omega) (by omega)).mp hh
      omega
    have m144 := qH_isCode h.1 h.2.1 p to 144 (by omega) hp hto
    have m217 := qH_isCode h.1 h.2.1 p to 217 (by omega) hp hto
    rw [fHeadReader_readHead_61, if_neg c2, o27, Option.bind_some, show fHeadReader_isCode 27 (Int32.ofNat p) (Int32.ofNat to) 144 w = _ from m144, q_call, q_kI, s_hd]
    by_cases k1 : p + 2 ≤ to ∧ nb L p = 255 ∧ nb L (p + 1) = 144
    · obtain ⟨w1, g1, h1, F1⟩ := h.h96 p a b ha hb
      rw [if_pos k1, if_pos (by decide), if_pos (Or.inl k1), g1]
      refine ⟨w1, _, _, _, _, ?_, h1, F1, fun _ => ?_⟩
      · by_cases ab : a = true ∧ b = true
        · rw [if_pos ab, if_pos ab]
        · rw [if_neg ab, if_neg ab]
      · by_cases ab : a = true ∧ b = true
        · rw [if_pos ab]
          exact ⟨rfl, hp⟩
        · rw [if_neg ab]
          exact ⟨rfl, hp⟩
    · rw [if_neg k1, if_neg (not_not_intro rfl), o27, Option.bind_some, show fHeadReader_isCode 27 (Int32.ofNat p) (Int32.ofNat to) 217 w = _ from m217, q_call, q_kI]
      by_cases k2 : p + 2 ≤ to ∧ nb L p = 255 ∧ nb L (p + 1) = 217
      · obtain ⟨w1, g1, h1, F1⟩ := h.h96 p a b ha hb
        rw [if_pos k2, if_neg (by decide), if_pos (Or.inr k2), g1]
        refine ⟨w1, _, _, _, _, ?_, h1, F1, fun _ => ?_⟩
        · by_cases ab : a = true ∧ b = true
          · rw [if_pos ab, if_pos ab]
          · rw [if_neg ab, if_neg ab]
        · by_cases ab : a = true ∧ b = true
          · rw [if_pos ab]
            exact ⟨rfl, hp⟩
          · rw [if_neg ab]
            exact ⟨rfl, hp⟩
      · have kn : ¬ ((p + 2 ≤ to ∧ nb L p = 255 ∧ nb L (p + 1) = 144) ∨ (p + 2 ≤ to ∧ nb L p = 255 ∧ nb L (p + 1) = 217)) := fun y => y.elim k1 k2
        rw [if_neg k2, if_pos rfl, if_neg kn, o27, Option.bind_some, qH_seg h.1 h.2.1 p to hp hto, q_call, q_kI]
        cases hs : s_seg L p to with
        | none =>
          rw [if_pos (show oN none = -1 from rfl)]
          exact ⟨w, _, _, _, _, rfl, h, qG.rf, fun y => by cases y⟩
        | some x =>
          have hx := s_seg_le hs
          rw [show oN (some x) = Int32.ofNat x from rfl]
          dsimp only
          rw [if_neg (oN_ne (by omega)), o27, Option.bind_some]
          obtain ⟨w1, nm1, sy1, sp1, v, g1, h1, F1, v1, v2, v3⟩ := h.segment p x (-1) many hm hm4 (by omega) (by omega)
          rw [g1, q_call, q_kI]
          by_cases hg : s_sgm L many p x
          · have hv : v = 1 := v2.resolve_left (fun y => v1.mp y hg)
            obtain ⟨x1, x2⟩ := v3 hv rfl
            rw [if_pos (show ¬ v = 0 by rw [hv]; decide), if_pos ((s_sgmB_iff _ _ _ _).mpr hg), q_let, show Int32.ofNat n + 1 = Int32.ofNat (n + 1) from (Int32.ofNat_add n 1).symm]
            obtain ⟨w2, he2, nm2, sy2, sp2, g2, h2, F2, e2⟩ := qHR.h61 to many hto hm hm4 f x p (n + 1) F w1 he nm1 sy1 sp1 (a || decide (nb L (p + 1) = 82)) (b || decide (nb L (p + 1) = 92)) h1 (by rw [x1, ha]; cases a <;> simp) (by rw [x2, hb]; cases b <;> simp) (by omega) (by omega) (by omega) (by omega)
            exact ⟨w2, he2, nm2, sy2, sp2, g2, h2, F1.tr F2, e2⟩
          · have hv : v = 0 := v1.mpr hg
            rw [if_neg (not_not_intro hv), if_neg (fun y => hg ((s_sgmB_iff _ _ _ _).mp y))]
            exact ⟨w1, _, _, _, _, rfl, h1, F1, fun y => by cases y⟩
end
def s_sizB (L : List Int32) (p x : Nat) : Bool := decide ((1 ≤ nb2 L (p + 38) ∧ nb2 L (p + 38) ≤ 4) ∧ x = p + 40 + 3 * nb2 L (p + 38) ∧ (nb2 L (p + 4) = 0 ∧ nb4 L (p + 14) = 0 ∧ nb4 L (p + 18) = 0 ∧ nb4 L (p + 30) = 0 ∧ nb4 L (p + 34) = 0) ∧ ((1 ≤ nb4 L (p + 6) ∧ nb4 L (p + 6) ≤ 2000) ∧ (1 ≤ nb4 L (p + 10) ∧ nb4 L (p + 10) ≤ 2000) ∧ (1 ≤ nb4 L (p + 22) ∧ nb4 L (p + 22) ≤ 65536) ∧ (1 ≤ nb4 L (p + 26) ∧ nb4 L (p + 26) ≤ 65536) ∧ s_til L p ≤ 24) ∧ ∀ k, k < nb2 L (p + 38) → nb L (p + 40 + 3 * k) ≤ 15 ∧ nb2 L (p + 40 + 3 * k + 1) = 257)
theorem s_sizB_iff (L : List Int32) (p x : Nat) : s_sizB L p x = true ↔ s_siz L p x := by
  unfold s_sizB
  exact decide_eq_true_iff
/-- the head of a stream: what is broken, where it ends -/
def s_head (L : List Int32) (fr to : Nat) : Option Nat × Nat := if fr + 2 ≤ to ∧ nb L fr = 255 ∧ nb L (fr + 1) = 79 then (if fr + 2 + 2 ≤ to ∧ nb L (fr + 2) = 255 ∧ nb L (fr + 2 + 1) = 81 then
    (match s_seg L (fr + 2) to with
    | none => (some (fr + 2), 0)
    | some x => if s_sizB L (fr + 2) x = true then s_hd L to (nb2 L (fr + 2 + 38)) 5001 x false false else (some (fr + 2), 0))
  else (some (fr + 2), 0)) else (some fr, 0)
section
variable {w : PW} {rt nt : Nat} {L : List Int32} {ft : Nat → Int32} {he tw th : Int32} {sz dp nm sy sp : Nat → Int32}
theorem qHR.head (h : qHR w rt nt L ft he tw th sz dp nm sy sp) (fr to : Nat) (hf : fr ≤ to) (hto : to ≤ L.length) (hsy : sy 0 = 0) (hsp : sp 0 = 0) : ∃ w' he' tw' th' sz' dp' nm' sy' sp', fHeadReader_readHead 27 (Int32.ofNat fr) (Int32.ofNat to) w = some (.inl (some (.int (oN (s_head L fr to).1))), w') ∧ qHR w' rt nt L ft he' tw' th' sz' dp' nm' sy' sp' ∧ qG w w' ∧ ((s_head L fr to).1 = none → he' = Int32.ofNat (s_head L fr to).2 ∧ (s_head L fr to).2 ≤ to ∧ s_sid L (fr + 2) ∧ (1 ≤ nb2 L (fr + 2 + 38) ∧ nb2 L (fr + 2 + 38) ≤ 4) ∧ tw' = Int32.ofNat (nb4 L (fr + 2 + 22)) ∧ th' = Int32.ofNat (nb4 L (fr + 2 + 26)) ∧ sz' 0 = Int32.ofNat (nb4 L (fr + 2 + 6)) ∧ sz' 1 = Int32.ofNat (nb4 L (fr + 2 + 10)) ∧ sz' 2 = Int32.ofNat (nb2 L (fr + 2 + 38))) := by
  have hl : L.length ≤ 20000 := h.2.1.2.2.2.1
  obtain ⟨f27, o27⟩ := h.O27
  have m79 := qH_isCode h.1 h.2.1 fr to 79 (by omega) hf hto
  unfold fHeadReader_readHead s_head
  rw [o27, Option.bind_some, show fHeadReader_isCode 27 (Int32.ofNat fr) (Int32.ofNat to) 79 w = _ from m79, q_call, q_kI]
  by_cases k1 : fr + 2 ≤ to ∧ nb L fr = 255 ∧ nb L (fr + 1) = 79
  · have m81 := qH_isCode h.1 h.2.1 (fr + 2) to 81 (by omega) k1.1 hto
    rw [if_pos k1, if_pos (by decide), if_pos k1, q_let, o27, Option.bind_some, show Int32.ofNat fr + 2 = Int32.ofNat (fr + 2) from (Int32.ofNat_add fr 2).symm, show fHeadReader_isCode 27 (Int32.ofNat (fr + 2)) (Int32.ofNat to) 81 w = _ from m81, q_call, q_kI]
    unfold fHeadReader_readHead_38
    by_cases k2 : fr + 2 + 2 ≤ to ∧ nb L (fr + 2) = 255 ∧ nb L (fr + 2 + 1) = 81
    · rw [if_pos k2, if_neg (by decide), if_pos k2, o27, Option.bind_some, qH_seg h.1 h.2.1 (fr + 2) to k1.1 hto, q_call, q_kI]
      cases hs : s_seg L (fr + 2) to with
      | none =>
        rw [if_pos (show oN none = -1 from rfl)]
        exact ⟨w, _, _, _, _, _, _, _, _, rfl, h, qG.rf, fun y => by cases y⟩
      | some x =>
        have hx := s_seg_le hs
        rw [show oN (some x) = Int32.ofNat x from rfl]
        dsimp only
        rw [if_neg (oN_ne (by omega)), o27, Option.bind_some]
        obtain ⟨w1, tw1, th1, sz1, dp1, v, g1, h1, F1, v1, v2, v3⟩ := h.sizes (fr + 2) x (by omega) (by omega)
        rw [g1, q_call, q_kI]
        by_cases hg : s_siz L (fr + 2) x
        · have hv : v = 1 := v1.resolve_left (fun y => v2.mp y hg)
          obtain ⟨x1, x2, x3, x4, x5⟩ := v3 hv
          rw [if_pos (show ¬ v = 0 by rw [hv]; decide), if_pos ((s_sizB_iff _ _ _).mpr hg)]
          obtain ⟨w2, he2, nm2, sy2, sp2, g2, h2, F2, e2⟩ := qHR.h61 to (nb2 L (fr + 2 + 38)) hto x5 hg.1.2 5001 x (fr + 2) 0 FUEL w1 he nm sy sp false false h1 (by simp [hsy]) (by simp [hsp]) hx.2.1 (by omega) (by decide) (by omega)
          refine ⟨w2, he2, tw1, th1, sz1, dp1, nm2, sy2, sp2, g2, h2, F1.tr F2, fun y => ?_⟩
          obtain ⟨y1, y2⟩ := e2 y
          exact ⟨y1, y2, hg.2.2.2.1, hg.1, x1, x2, x3, x4, x5⟩
        · have hv : v = 0 := v2.mpr hg
          rw [if_neg (not_not_intro hv), if_neg (fun y => hg ((s_sizB_iff _ _ _).mp y))]
          exact ⟨w1, _, _, _, _, _, _, _, _, rfl, h1, F1, fun y => by cases y⟩
    · rw [if_neg k2, if_pos rfl, if_neg k2, if_pos rfl]
      exact ⟨w, _, _, _, _, _, _, _, _, rfl, h, qG.rf, fun y => by cases y⟩
  · rw [if_neg k1, if_neg (not_not_intro rfl), if_neg k1]
    exact ⟨w, _, _, _, _, _, _, _, _, rfl, h, qG.rf, fun y => by cases y⟩
end
/-- the readers of heads and parts at w -/
def qPH (w : PW) (rt nt : Nat) (L : List Int32) (ft : Nat → Int32) (he tw th : Int32) (sz dp nm sy sp : Nat → Int32) (lc cnt : Int32) (pa : Nat → Nat → Int32) : Prop := qHR w rt nt L ft he tw th sz dp nm sy sp ∧ qPr w lc cnt pa
section
variable {w : PW} {rt nt : Nat} {L : List Int32} {ft : Nat → Int32} {he tw th : Int32} {sz dp nm sy sp : Nat → Int32} {lc cnt : Int32} {pa : Nat → Nat → Int32}
theorem qPH.R (h : qPH w rt nt L ft he tw th sz dp nm sy sp lc cnt pa) : p_getR w 28 6 0 = some 14 ∧ p_getR w 28 6 1 = some 16 ∧ p_getR w 28 6 2 = some 27 ∧ p_getR w 28 6 3 = some 29 ∧ p_getR w 28 6 4 = some 30 ∧ p_getR w 28 6 5 = some 31 ∧ p_getR w 28 6 6 = some 32 ∧ p_getR w 28 6 7 = some 33 ∧ p_getR w 28 6 8 = some 34 ∧ p_getR w 28 6 9 = some 35 ∧ p_getR w 28 6 10 = some 36 ∧ p_getI w 28 6 11 = some lc ∧ p_getI w 28 6 12 = some cnt := ⟨q_getR (k := 0) h.2.1 rfl, q_getR (k := 1) h.2.1 rfl, q_getR (k := 2) h.2.1 rfl, q_getR (k := 3) h.2.1 rfl, q_getR (k := 4) h.2.1 rfl, q_getR (k := 5) h.2.1 rfl, q_getR (k := 6) h.2.1 rfl, q_getR (k := 7) h.2.1 rfl, q_getR (k := 8) h.2.1 rfl, q_getR (k := 9) h.2.1 rfl, q_getR (k := 10) h.2.1 rfl, q_getI (k := 11) h.2.1 rfl, q_getI (k := 12) h.2.1 rfl⟩
theorem qPH.ld (h : qPH w rt nt L ft he tw th sz dp nm sy sp lc cnt pa) (k t i : Nat) (h1 : 29 ≤ k) (h2 : k < 37) (ht : rT k = t) (hi : i < rL k) : p_ald w k t (Int32.ofNat i) = some (pa k i) := by
  subst ht
  have hr : rL k ≤ 300 := by unfold rL; split <;> (try split) <;> omega
  have := q_ald (h.2.2 k h1 h2) (q_ge0 i (by omega)) ((q_lt (by omega) (by omega)).mpr hi) (by omega)
  rw [q_tno (by omega)] at this
  exact this
theorem qHR.keepE {w' : PW} {a : Nat} (h : qHR w rt nt L ft he tw th sz dp nm sy sp) (F : qE a w w') (h1 : 28 ≤ a) (h2 : a < 37) : qHR w' rt nt L ft he tw th sz dp nm sy sp := by
  obtain ⟨a1, a2, a3, a4⟩ := h
  exact ⟨F.at a1 (by omega), a2.keep (F.2.1 14 (by omega)) (F.2.1 rt (by omega)), a3, a4.keep (fun x k1 k2 => F.2.1 x (by omega))⟩
theorem qPH.st (h : qPH w rt nt L ft he tw th sz dp nm sy sp lc cnt pa) (k t i : Nat) (v : Int32) (h1 : 29 ≤ k) (h2 : k < 37) (ht : rT k = t) (hi : i < rL k) : ∃ w', p_ast w k t (Int32.ofNat i) v = some w' ∧ qPH w' rt nt L ft he tw th sz dp nm sy sp lc cnt (ug pa k i v) ∧ qK w w' := by
  subst ht
  have hr : rL k ≤ 300 := by unfold rL; split <;> (try split) <;> omega
  obtain ⟨w1, g1, s1, F1⟩ := o_ast (h.2.2 k h1 h2) (q_ge0 i (by omega)) ((q_lt (by omega) (by omega)).mpr hi) (by omega) v
  rw [q_tno (by omega)] at s1
  refine ⟨w1, g1, ⟨h.1.keepE F1 (by omega) (by omega), F1.at h.2.1 (by omega), fun j k1 k2 => ?_⟩, F1.k (by omega) (by omega)⟩
  by_cases e : j = k
  · subst e
    rw [s1, ug_self]
  · rw [F1.at (h.2.2 j k1 k2) e, ug_ne _ _ _ e]
theorem qPH.putL (h : qPH w rt nt L ft he tw th sz dp nm sy sp lc cnt pa) (v : Int32) : ∃ w', p_put w 28 6 11 (.int v) = some w' ∧ qPH w' rt nt L ft he tw th sz dp nm sy sp v cnt pa ∧ qK w w' := by
  obtain ⟨w1, g1, s1, F1⟩ := o_put (k := 11) h.2.1 (by simp) (.int v)
  exact ⟨w1, g1, ⟨h.1.keepE F1 (by omega) (by omega), s1, fun j k1 k2 => F1.at (h.2.2 j k1 k2) (by omega)⟩, F1.k (by omega) (by omega)⟩
theorem qPH.putC (h : qPH w rt nt L ft he tw th sz dp nm sy sp lc cnt pa) (v : Int32) : ∃ w', p_put w 28 6 12 (.int v) = some w' ∧ qPH w' rt nt L ft he tw th sz dp nm sy sp lc v pa ∧ qK w w' := by
  obtain ⟨w1, g1, s1, F1⟩ := o_put (k := 12) h.2.1 (by simp) (.int v)
  exact ⟨w1, g1, ⟨h.1.keepE F1 (by omega) (by omega), s1, fun j k1 k2 => F1.at (h.2.2 j k1 k2) (by omega)⟩, F1.k (by omega) (by omega)⟩
theorem qPH.O14 (h : qPH w rt nt L ft he tw th sz dp nm sy sp lc cnt pa) : ∃ fs, p_obj w 14 2 = some fs := h.1.O14
theorem qPH.O28 (h : qPH w rt nt L ft he tw th sz dp nm sy sp lc cnt pa) : ∃ fs, p_obj w 28 6 = some fs := ⟨_, q_obj h.2.1⟩
theorem q_irem_some (x : Int32) (y : Int32) (hy : ¬ y = 0) : ∃ v, p_irem x y = some v := ⟨_, if_neg hy⟩
theorem qPH.kl16 (to : Nat) (hto : to ≤ L.length) : ∀ (n i F m : Nat) (w : PW) (acc : Int32) (pa : Nat → Nat → Int32), qPH w rt nt L ft he tw th sz dp nm sy sp (Int32.ofNat m) cnt pa → m ≤ 200 → n < F → i + n = to → ∃ w' v m' pa', fPartReader_keepLengths_16 F 28 (Int32.ofNat to) acc (Int32.ofNat i) w = some (.inl (some (.int v)), w') ∧ qPH w' rt nt L ft he tw th sz dp nm sy sp (Int32.ofNat m') cnt pa' ∧ m' ≤ 200 ∧ qK w w' ∧ (v = 0 ∨ v = 1)
  | 0, i, F + 1, m, w, acc, pa, h, hm, _, hi => by
    have hl : L.length ≤ 20000 := h.1.2.1.2.2.2.1
    rw [fPartReader_keepLengths_16, if_pos ((q_of_le (by omega) (by omega)).mpr (by omega))]
    exact ⟨w, 1, m, pa, rfl, h, hm, qK.rf, Or.inr rfl⟩
  | n + 1, i, F + 1, m, w, acc, pa, h, hm, hn, hi => by
    have hl : L.length ≤ 20000 := h.1.2.1.2.2.2.1
    obtain ⟨f14, o14⟩ := h.O14
    have e1 : Int32.ofNat i + 1 = Int32.ofNat (i + 1) := (Int32.ofNat_add i 1).symm
    obtain ⟨rv, hrv⟩ := q_irem_some (Int32.ofNat (nb L i)) 128 (by decide)
    rw [fPartReader_keepLengths_16, if_neg (fun hh => by have := (q_of_le (by omega) (by omega)).mp hh; omega), h.R.1, Option.bind_some, o14, Option.bind_some, h.1.2.1.gn i (by omega), q_call, q_kI, hrv, Option.bind_some, q_let, q_let, e1]
    by_cases k1 : (128 : Int32) ≤ Int32.ofNat (nb L i)
    · rw [if_pos k1]
      exact qPH.kl16 to hto n (i + 1) F m w _ pa h hm (by omega) (by omega)
    · rw [if_neg k1]
      by_cases k2 : (100000 : Int32) < p_min acc 100001 * 128 + rv
      · rw [if_pos k2]
        exact ⟨w, 0, m, pa, rfl, h, hm, qK.rf, Or.inl rfl⟩
      · rw [if_neg k2, h.R.2.2.2.2.2.2.2.2.2.2.2.1, Option.bind_some]
        have c200 : Int32.ofNat m < 200 ↔ m < 200 := q_lt (n := 200) (by omega) (by omega)
        by_cases k3 : m < 200
        · rw [if_pos (c200.mpr k3), h.R.2.2.2.2.2.2.2.2.2.2.1, Option.bind_some, Option.bind_some]
          obtain ⟨w1, g1, h1, F1⟩ := h.st 36 0 m (p_min acc 100001 * 128 + rv) (by omega) (by omega) rfl (by show m < 200; omega)
          obtain ⟨w2, g2, h2, F2⟩ := h1.putL (Int32.ofNat (m + 1))
          rw [g1, Option.bind_some, h1.R.2.2.2.2.2.2.2.2.2.2.2.1, Option.bind_some, show Int32.ofNat m + 1 = Int32.ofNat (m + 1) from (Int32.ofNat_add m 1).symm, g2, Option.bind_some, q_let]
          obtain ⟨w3, v, m', pa', g3, h3, l3, F3, v3⟩ := qPH.kl16 to hto n (i + 1) F (m + 1) w2 0 _ h2 (by omega) (by omega) (by omega)
          exact ⟨w3, v, m', pa', g3, h3, l3, (F1.tr F2).tr F3, v3⟩
        · rw [if_neg (fun y => k3 (c200.mp y))]
          exact ⟨w, 0, m, pa, rfl, h, hm, qK.rf, Or.inl rfl⟩
end
section
variable {w : PW} {rt nt : Nat} {L : List Int32} {ft : Nat → Int32} {he tw th : Int32} {sz dp nm sy sp : Nat → Int32} {lc cnt : Int32} {pa : Nat → Nat → Int32}
theorem qPH.w80 (h : qPH w rt nt L ft he tw th sz dp nm sy sp lc cnt pa) (k : Nat) (hk : k < 300) (st wh si : Int32) : ∃ w' pa', fPartReader_weigh_80 28 (Int32.ofNat k) st wh si w = some (.inl (some (.int 1)), w') ∧ qPH w' rt nt L ft he tw th sz dp nm sy sp lc cnt pa' ∧ qK w w' ∧ (∀ j, j ≠ 31 → j ≠ 32 → j ≠ 33 → pa' j = pa j) := by
  unfold fPartReader_weigh_80
  obtain ⟨w1, g1, h1, F1⟩ := h.st 31 0 k st (by omega) (by omega) rfl (by show k < 300; omega)
  obtain ⟨w2, g2, h2, F2⟩ := h1.st 32 0 k si (by omega) (by omega) rfl (by show k < 300; omega)
  obtain ⟨w3, g3, h3, F3⟩ := h2.st 33 0 k wh (by omega) (by omega) rfl (by show k < 300; omega)
  rw [h.R.2.2.2.2.2.1, Option.bind_some, g1, Option.bind_some, h1.R.2.2.2.2.2.2.1, Option.bind_some, g2, Option.bind_some, h2.R.2.2.2.2.2.2.2.1, Option.bind_some, g3, Option.bind_some]
  exact ⟨w3, _, rfl, h3, (F1.tr F2).tr F3, fun j a b c => by rw [ug_ne _ _ _ c, ug_ne _ _ _ b, ug_ne _ _ _ a]⟩
theorem qPH.w53 (h : qPH w rt nt L ft he tw th sz dp nm sy sp lc cnt pa) (k : Nat) (hk : k < 300) (st th' wh si : Int32) : ∃ w' v pa', fPartReader_weigh_53 28 (Int32.ofNat k) st th' wh si w = some (.inl (some (.int v)), w') ∧ qPH w' rt nt L ft he tw th sz dp nm sy sp lc cnt pa' ∧ qK w w' ∧ (v = 0 ∨ v = 1) := by
  unfold fPartReader_weigh_53
  have z : ∃ w' v pa', p_retZ 0 w = some (.inl (some (.int v)), w') ∧ qPH w' rt nt L ft he tw th sz dp nm sy sp lc cnt pa' ∧ qK w w' ∧ (v = 0 ∨ v = 1) := ⟨w, 0, pa, rfl, h, qK.rf, Or.inl rfl⟩
  have o : ∃ w' v pa', fPartReader_weigh_80 28 (Int32.ofNat k) st wh si w = some (.inl (some (.int v)), w') ∧ qPH w' rt nt L ft he tw th sz dp nm sy sp lc cnt pa' ∧ qK w w' ∧ (v = 0 ∨ v = 1) := by
    obtain ⟨w1, p1, g1, h1, F1, -⟩ := h.w80 k hk st wh si
    exact ⟨w1, 1, p1, g1, h1, F1, Or.inr rfl⟩
  rw [h.R.2.2.2.2.2.2.2.2.1, Option.bind_some, h.ld 34 2 k (by omega) (by omega) rfl (by show k < 300; omega), Option.bind_some]
  split
  · exact o
  · rw [h.R.2.2.2.2.2.2.2.2.2.2.2.1, Option.bind_some]
    split
    · exact z
    · split
      · exact o
      · exact z
theorem qPH.w11 (k : Nat) (hk : k < 300) (st th' : Int32) (m : Nat) (hm : m ≤ 200) : ∀ (n i F : Nat) (si : Int32), qPH w rt nt L ft he tw th sz dp nm sy sp (Int32.ofNat m) cnt pa → n < F → i + n = m → ∃ w' v pa', fPartReader_weigh_11 F 28 (Int32.ofNat k) st th' (Int32.ofNat i) si w = some (.inl (some (.int v)), w') ∧ qPH w' rt nt L ft he tw th sz dp nm sy sp (Int32.ofNat m) cnt pa' ∧ qK w w' ∧ (v = 0 ∨ v = 1)
  | 0, i, F + 1, si, h, _, hi => by
    rw [fPartReader_weigh_11, h.R.2.2.2.2.2.2.2.2.2.2.2.1, Option.bind_some, if_pos ((q_of_le (by omega) (by omega)).mpr (by omega))]
    exact h.w53 k hk st th' _ si
  | n + 1, i, F + 1, si, h, hn, hi => by
    rw [fPartReader_weigh_11, h.R.2.2.2.2.2.2.2.2.2.2.2.1, Option.bind_some, if_neg (fun hh => by have := (q_of_le (by omega) (by omega)).mp hh; omega), h.R.2.2.2.2.2.2.2.2.2.2.1, Option.bind_some, h.ld 36 0 i (by omega) (by omega) rfl (by show i < 200; omega), Option.bind_some]
    split
    · exact h.w53 k hk st th' _ si
    · rw [Option.bind_some, h.ld 36 0 i (by omega) (by omega) rfl (by show i < 200; omega), Option.bind_some, q_let, q_let, show Int32.ofNat i + 1 = Int32.ofNat (i + 1) from (Int32.ofNat_add i 1).symm]
      exact qPH.w11 k hk st th' m hm n (i + 1) F _ h (by omega) (by omega)
theorem qPH.segment (h : qPH w rt nt L ft he tw th sz dp nm sy sp lc cnt pa) (p x : Nat) (t : Int32) (many : Nat) (hm : sz 2 = Int32.ofNat many) (hm4 : many ≤ 4) (hp : p + 4 ≤ x) (hx : x ≤ L.length) : ∃ w' nm' sy' sp' v, fHeadReader_keepSegment 27 (Int32.ofNat p) (Int32.ofNat x) t w = some (.inl (some (.int v)), w') ∧ qPH w' rt nt L ft he tw th sz dp nm' sy' sp' lc cnt pa ∧ qK w w' ∧ (v = 0 ∨ v = 1) := by
  obtain ⟨w1, nm1, sy1, sp1, v, g1, h1, F1, v1, v2, -⟩ := h.1.segment p x t many hm hm4 hp hx
  exact ⟨w1, nm1, sy1, sp1, v, g1, ⟨h1, by rw [F1.2.2 28 (by omega), h.2.1], fun k k1 k2 => by rw [F1.2.2 k (by omega), h.2.2 k k1 k2]⟩, F1.k, v2⟩
theorem qPH.drop (h : qPH w rt nt L ft he tw th sz dp nm sy sp lc cnt pa) (t : Int32) : ∃ w' sy' sp', fSettings_forgetTile 16 t w = some (.inl none, w') ∧ qPH w' rt nt L ft he tw th sz dp nm sy' sp' lc cnt pa ∧ qK w w' := by
  obtain ⟨⟨a1, a2, a3, a4⟩, b1, b2⟩ := h
  obtain ⟨w1, g1, q1, F1⟩ := a4.forgetTile t
  exact ⟨w1, _, _, g1, ⟨⟨F1.at a1 (by omega), a2.keep (F1.2.2 14 (by omega)) (F1.2.2 rt (by omega)), a3, q1⟩, F1.at b1 (by omega), fun k k1 k2 => F1.at (b2 k k1 k2) (by omega)⟩, F1.g.k⟩
end
section
variable {w : PW} {rt nt : Nat} {L : List Int32} {ft : Nat → Int32} {he tw th : Int32} {sz dp nm sy sp : Nat → Int32} {lc cnt : Int32} {pa : Nat → Nat → Int32}
theorem qPH.lengths {m : Nat} (h : qPH w rt nt L ft he tw th sz dp nm sy sp (Int32.ofNat m) cnt pa) (hm : m ≤ 200) (p x : Nat) (hp : p ≤ x) (hx : x ≤ L.length) : ∃ w' v m' pa', fPartReader_keepLengths 28 (Int32.ofNat p) (Int32.ofNat x) w = some (.inl (some (.int v)), w') ∧ qPH w' rt nt L ft he tw th sz dp nm sy sp (Int32.ofNat m') cnt pa' ∧ m' ≤ 200 ∧ qK w w' ∧ (v = 0 ∨ v = 1) := by
  have hl : L.length ≤ 20000 := h.1.2.1.2.2.2.1
  unfold fPartReader_keepLengths
  have c5 : (5 : Int32) ≤ Int32.ofNat x - Int32.ofNat p ↔ 5 ≤ x - p := by
    rw [q_subn hp (by omega)]
    exact q_of_le (m := 5) (by omega) (by omega)
  by_cases k : 5 ≤ x - p
  · rw [if_pos (c5.mpr k), q_let, show Int32.ofNat p + 5 = Int32.ofNat (p + 5) from (Int32.ofNat_add p 5).symm]
    exact qPH.kl16 x hx (x - (p + 5)) (p + 5) FUEL m w 0 pa h hm (by show _ < 1000000; omega) (by omega)
  · rw [if_neg (fun y => k (c5.mp y))]
    exact ⟨w, 0, m, pa, rfl, h, hm, qK.rf, Or.inl rfl⟩
theorem q_segcode (v : Int32) (w : PW) : ∃ r, fHeadReader_isSegmentCode v w = some (.inl (some (.int r)), w) := by
  unfold fHeadReader_isSegmentCode
  (repeat' split) <;> exact ⟨_, rfl⟩
theorem qPH.ph11 (to many : Nat) (hto : to ≤ L.length) (hm : sz 2 = Int32.ofNat many) (hm4 : many ≤ 4) (t : Nat) (ht : t < 24) : ∀ (f p n F m : Nat) (w : PW) (nm sy sp : Nat → Int32) (pa : Nat → Nat → Int32), qPH w rt nt L ft he tw th sz dp nm sy sp (Int32.ofNat m) cnt pa → m ≤ 200 → p ≤ to → to < p + 4 * f → f < F → n + f ≤ 19000 → ∃ w' v nm' sy' sp' m' pa', fPartReader_readPartHead_11 F 28 (Int32.ofNat to) (Int32.ofNat t) (Int32.ofNat p) (Int32.ofNat n) w = some (.inl (some (.int v)), w') ∧ qPH w' rt nt L ft he tw th sz dp nm' sy' sp' (Int32.ofNat m') cnt pa' ∧ m' ≤ 200 ∧ qK w w'
  | 0, p, n, F, m, w, nm, sy, sp, pa, h, hm2, hp, hf, _, _ => by omega
  | f + 1, p, n, F + 1, m, w, nm, sy, sp, pa, h, hm2, hp, hf, hF, hn => by
    have hl : L.length ≤ 20000 := h.1.2.1.2.2.2.1
    obtain ⟨f14, o14⟩ := h.O14
    obtain ⟨f27, o27⟩ := h.1.O27
    obtain ⟨f28, o28⟩ := h.O28
    have c2 : ¬ (20000 : Int32) ≤ Int32.ofNat n := fun hh => by
      have := (q_of_le (m := 20000) (n := n) (by omega) (by omega)).mp hh
      omega
    have e1 : Int32.ofNat n + 1 = Int32.ofNat (n + 1) := (Int32.ofNat_add n 1).symm
    have m147 := qH_isCode h.1.1 h.1.2.1 p to 147 (by omega) hp hto
    rw [fPartReader_readPartHead_11, if_neg c2, h.R.2.2.1, Option.bind_some, o27, Option.bind_some, show fHeadReader_isCode 27 (Int32.ofNat p) (Int32.ofNat to) 147 w = _ from m147, q_call, q_kI]
    by_cases k1 : p + 2 ≤ to ∧ nb L p = 255 ∧ nb L (p + 1) = 147
    · rw [if_pos k1, if_neg (by decide)]
      exact ⟨w, _, _, _, _, m, _, rfl, h, hm2, qK.rf⟩
    · rw [if_neg k1, if_pos rfl, h.R.2.2.1, Option.bind_some, o27, Option.bind_some, qH_seg h.1.1 h.1.2.1 p to hp hto, q_call, q_kI]
      cases hs : s_seg L p to with
      | none =>
        rw [if_neg (not_not_intro (show oN none = -1 from rfl))]
        exact ⟨w, _, _, _, _, m, _, rfl, h, hm2, qK.rf⟩
      | some x =>
        have hx := s_seg_le hs
        rw [show oN (some x) = Int32.ofNat x from rfl, if_pos (oN_ne (by omega)), h.R.1, Option.bind_some, o14, Option.bind_some, show Int32.ofNat p + 1 = Int32.ofNat (p + 1) from (Int32.ofNat_add p 1).symm, h.1.2.1.gn (p + 1) (by omega), q_call, q_kI]
        obtain ⟨r, hr⟩ := q_segcode (Int32.ofNat (nb L (p + 1))) w
        rw [hr, q_call, q_kI, h.R.2.2.2.2.2.2.2.2.2.1, Option.bind_some, h.ld 35 0 t (by omega) (by omega) rfl (by show t < 24; omega), Option.bind_some]
        have nx : ∀ (w' : PW) (nm' sy' sp' : Nat → Int32) (m' : Nat) (pa' : Nat → Nat → Int32) (v : Int32), qPH w' rt nt L ft he tw th sz dp nm' sy' sp' (Int32.ofNat m') cnt pa' → m' ≤ 200 → qK w w' → ∃ w'' v'' nm'' sy'' sp'' m'' pa'', fPartReader_readPartHead_140 (fPartReader_readPartHead_11 F) 28 (Int32.ofNat to) (Int32.ofNat t) (Int32.ofNat n) (Int32.ofNat x) v w' = some (.inl (some (.int v'')), w'') ∧ qPH w'' rt nt L ft he tw th sz dp nm'' sy'' sp'' (Int32.ofNat m'') cnt pa'' ∧ m'' ≤ 200 ∧ qK w w'' := by
          intro w' nm' sy' sp' m' pa' v h' hm' F'
          unfold fPartReader_readPartHead_140
          by_cases hv : v = 0
          · rw [if_neg (not_not_intro hv)]
            exact ⟨w', _, _, _, _, m', _, rfl, h', hm', F'⟩
          · rw [if_pos hv, q_let, e1]
            obtain ⟨w2, v2, a1, a2, a3, a4, a5, g2, h2, l2, F2⟩ := qPH.ph11 to many hto hm hm4 t ht f x (n + 1) F m' w' nm' sy' sp' pa' h' hm' (by omega) (by omega) (by omega) (by omega)
            exact ⟨w2, v2, a1, a2, a3, a4, a5, g2, h2, l2, F'.tr F2⟩
        have go : ∀ s : Int32, ∃ w'' v'' nm'' sy'' sp'' m'' pa'', fPartReader_readPartHead_95 (fPartReader_readPartHead_11 F) 28 (Int32.ofNat to) (Int32.ofNat t) (Int32.ofNat p) (Int32.ofNat n) (Int32.ofNat x) (Int32.ofNat (nb L (p + 1))) s w = some (.inl (some (.int v'')), w'') ∧ qPH w'' rt nt L ft he tw th sz dp nm'' sy'' sp'' (Int32.ofNat m'') cnt pa'' ∧ m'' ≤ 200 ∧ qK w w'' := by
          intro s
          unfold fPartReader_readPartHead_95
          by_cases a : Int32.ofNat (nb L (p + 1)) = 88
          · rw [if_neg (not_not_intro a), o28, Option.bind_some]
            obtain ⟨w1, v1, m1, p1, g1, h1, l1, F1, -⟩ := h.lengths hm2 p x (by omega) (by omega)
            rw [g1, q_call, q_kI]
            exact nx w1 _ _ _ m1 p1 v1 h1 l1 F1
          · rw [if_pos a]
            by_cases b : s = 0
            · rw [if_neg (not_not_intro b), h.R.2.2.1, Option.bind_some, o27, Option.bind_some]
              obtain ⟨w1, nm1, sy1, sp1, v1, g1, h1, F1, d1⟩ := h.segment p x (Int32.ofNat t) many hm hm4 (by omega) (by omega)
              rw [g1, q_call, q_kI]
              split
              · exact nx w1 _ _ _ m _ 0 h1 hm2 F1
              · exact nx w1 _ _ _ m _ 1 h1 hm2 F1
            · rw [if_pos b]
              exact nx w _ _ _ m _ 0 h hm2 qK.rf
        split
        · exact go 0
        · split
          · exact go 0
          · exact go 1
end
section
variable {w : PW} {rt nt : Nat} {L : List Int32} {ft : Nat → Int32} {he tw th : Int32} {sz dp nm sy sp : Nat → Int32} {lc cnt : Int32} {pa : Nat → Nat → Int32}
theorem qPH.p160 {m : Nat} (h : qPH w rt nt L ft he tw th sz dp nm sy sp (Int32.ofNat m) cnt pa) (t : Nat) (ht : t < 24) : ∃ w' sy' sp', fPartReader_readPart_160 28 (Int32.ofNat t) w = some (.inl none, w') ∧ qPH w' rt nt L ft he tw th sz dp nm sy' sp' (Int32.ofNat m) cnt pa ∧ qK w w' := by
  unfold fPartReader_readPart_160
  rw [h.R.2.2.2.2.2.2.2.2.2.1, Option.bind_some, h.ld 35 0 t (by omega) (by omega) rfl (by show t < 24; omega), Option.bind_some]
  split
  · exact ⟨w, _, _, rfl, h, qK.rf⟩
  · obtain ⟨f16, o16⟩ := h.1.O16
    obtain ⟨w1, s1, s2, g1, h1, F1⟩ := h.drop (Int32.ofNat t)
    rw [h.R.2.1, Option.bind_some, o16, Option.bind_some, g1, q_call, q_kV]
    exact ⟨w1, _, _, rfl, h1, F1⟩
theorem qPH.part {m : Nat} (h : qPH w rt nt L ft he tw th sz dp nm sy sp (Int32.ofNat m) cnt pa) (hm2 : m ≤ 200) (many : Nat) (hm : sz 2 = Int32.ofNat many) (hm4 : many ≤ 4) (k p x : Nat) (hk : k < 300) (hpk : pa 30 k = Int32.ofNat p) (hp : p + 12 ≤ x) (hx : x ≤ L.length) : ∃ w' nm' sy' sp' m' pa', fPartReader_readPart 28 (Int32.ofNat k) (Int32.ofNat x) w = some (.inl none, w') ∧ qPH w' rt nt L ft he tw th sz dp nm' sy' sp' (Int32.ofNat m') cnt pa' ∧ m' ≤ 200 ∧ qK w w' := by
  have hl : L.length ≤ 20000 := h.1.2.1.2.2.2.1
  obtain ⟨f14, o14⟩ := h.O14
  have e : ∀ i : Nat, Int32.ofNat p + Int32.ofNat i = Int32.ofNat (p + i) := fun i => (Int32.ofNat_add _ _).symm
  have l4 := nb2_lt h.1.2.1.by (p + 4)
  unfold fPartReader_readPart
  obtain ⟨w1, g1, h1, F1⟩ := h.st 29 0 k (-1) (by omega) (by omega) rfl (by show k < 300; omega)
  obtain ⟨w2, g2, h2, F2⟩ := h1.st 31 0 k 0 (by omega) (by omega) rfl (by show k < 300; omega)
  obtain ⟨w3, g3, h3, F3⟩ := h2.st 32 0 k 0 (by omega) (by omega) rfl (by show k < 300; omega)
  obtain ⟨w4, g4, h4, F4⟩ := h3.st 33 0 k 0 (by omega) (by omega) rfl (by show k < 300; omega)
  have F := ((F1.tr F2).tr F3).tr F4
  rw [h.R.2.2.2.2.1, Option.bind_some, h.ld 30 0 k (by omega) (by omega) rfl (by show k < 300; omega), Option.bind_some, hpk, h.R.1, Option.bind_some, o14, Option.bind_some, show Int32.ofNat p + 4 = _ from e 4, h.1.n2 (p + 4) (by omega), q_call, q_kJ, q_32n, q_let, h.R.2.2.2.1, Option.bind_some, g1, Option.bind_some, h1.R.2.2.2.2.2.1, Option.bind_some, g2, Option.bind_some, h2.R.2.2.2.2.2.2.1, Option.bind_some, g3, Option.bind_some, h3.R.2.2.2.2.2.2.2.1, Option.bind_some, g4, Option.bind_some]
  obtain ⟨f44, o44⟩ := h4.O14
  obtain ⟨f46, o46⟩ := h4.1.O16
  obtain ⟨f48, o48⟩ := h4.O28
  rw [h4.R.1, Option.bind_some, o44, Option.bind_some, show Int32.ofNat p + 2 = _ from e 2, h4.1.n2 (p + 2) (by omega), q_call, q_kJ]
  have out : ∃ w' nm' sy' sp' m' pa', (some (.inl none, w4) : PX) = some (.inl none, w') ∧ qPH w' rt nt L ft he tw th sz dp nm' sy' sp' (Int32.ofNat m') cnt pa' ∧ m' ≤ 200 ∧ qK w w' := ⟨w4, _, _, _, m, _, rfl, h4, hm2, F⟩
  obtain ⟨r, hr⟩ : ∃ r, fSettings_isTile 16 (Int32.ofNat (nb2 L (p + 4))) w4 = some (.inl (some (.int r)), w4) := ⟨_, h4.1.2.2.2.isTile _⟩
  by_cases k10 : lg_cmp (Int64.ofNat (nb2 L (p + 2))) 10 = 0
  · rw [if_neg (not_not_intro k10), h4.R.2.1, Option.bind_some, o46, Option.bind_some, hr, q_call, q_kI]
    by_cases kr : r = 0
    · rw [if_pos kr]
      exact out
    · rw [if_neg kr]
      have c24 : (24 : Int32) ≤ Int32.ofNat (nb2 L (p + 4)) ↔ 24 ≤ nb2 L (p + 4) := q_of_le (m := 24) (by omega) (by omega)
      by_cases k24 : 24 ≤ nb2 L (p + 4)
      · rw [if_pos (c24.mpr k24)]
        exact out
      · obtain ⟨q, hq⟩ : ∃ q, p_ald w4 35 0 (Int32.ofNat (nb2 L (p + 4))) = some q := ⟨_, h4.ld 35 0 (nb2 L (p + 4)) (by omega) (by omega) rfl (by show _ < 24; omega)⟩
        rw [if_neg (fun y => k24 (c24.mp y)), h4.R.1, Option.bind_some, o44, Option.bind_some, show Int32.ofNat p + 10 = _ from e 10, h4.1.2.1.gn (p + 10) (by omega), q_call, q_kI, h4.R.2.2.2.2.2.2.2.2.2.1, Option.bind_some, hq, Option.bind_some]
        by_cases kq : Int32.ofNat (nb L (p + 10)) = q
        · rw [if_pos kq, o48, Option.bind_some]
          unfold fPartReader_readPartHead
          obtain ⟨w5, g5, h5, F5⟩ := h4.putL 0
          rw [g5, Option.bind_some, show Int32.ofNat p + 12 = _ from e 12]
          obtain ⟨w6, v6, nm6, sy6, sp6, m6, pa6, g6, h6, l6, F6⟩ := qPH.ph11 x many hx hm hm4 (nb2 L (p + 4)) (by omega) 5001 (p + 12) 0 FUEL 0 w5 _ _ _ _ h5 (by omega) (by omega) (by omega) (by decide) (by omega)
          rw [show fPartReader_readPartHead_11 FUEL 28 (Int32.ofNat x) (Int32.ofNat (nb2 L (p + 4))) (Int32.ofNat (p + 12)) 0 w5 = _ from g6, q_call, q_kI]
          have F56 := (F.tr F5).tr F6
          by_cases kv : v6 = -1
          · rw [if_pos kv]
            obtain ⟨w7, s7, s8, g7, h7, F7⟩ := h6.p160 (nb2 L (p + 4)) (by omega)
            exact ⟨w7, _, _, _, m6, _, g7, h7, l6, F56.tr F7⟩
          · obtain ⟨f68, o68⟩ := h6.O28
            rw [if_neg kv, o68, Option.bind_some]
            unfold fPartReader_weigh
            obtain ⟨w7, v7, pa7, g7, h7, F7, -⟩ := qPH.w11 k hk v6 (Int32.ofNat x - v6) m6 l6 m6 0 FUEL 0 h6 (by show _ < 1000000; omega) (by omega)
            rw [q_let, show fPartReader_weigh_11 FUEL 28 (Int32.ofNat k) v6 (Int32.ofNat x - v6) 0 0 w6 = _ from g7, q_call, q_kI]
            have F7' := F56.tr F7
            by_cases kw : v7 = 0
            · rw [if_pos kw]
              obtain ⟨w8, s7, s8, g8, h8, F8⟩ := h7.p160 (nb2 L (p + 4)) (by omega)
              exact ⟨w8, _, _, _, m6, _, g8, h8, l6, F7'.tr F8⟩
            · obtain ⟨w8, g8, h8, F8⟩ := h7.st 29 0 k (Int32.ofNat (nb2 L (p + 4))) (by omega) (by omega) rfl (by show k < 300; omega)
              rw [if_neg kw, h7.R.2.2.2.1, Option.bind_some, g8, Option.bind_some, h8.R.2.2.2.2.2.2.2.2.2.1, Option.bind_some, h8.ld 35 0 (nb2 L (p + 4)) (by omega) (by omega) rfl (by show _ < 24; omega), Option.bind_some]
              obtain ⟨w9, g9, h9, F9⟩ := h8.st 35 0 (nb2 L (p + 4)) ((ug pa7 29 k (Int32.ofNat (nb2 L (p + 4)))) 35 (nb2 L (p + 4)) + 1) (by omega) (by omega) rfl (by show _ < 24; omega)
              rw [g9, Option.bind_some]
              exact ⟨w9, _, _, _, m6, _, rfl, h9, l6, (F7'.tr F8).tr F9⟩
        · rw [if_neg kq]
          exact out
  · rw [if_pos k10]
    exact out
end
def s_nx (L : List Int32) (p to : Nat) : Nat := if nb4 L (p + 6) = 0 ∨ to < p + nb4 L (p + 6) then to else p + nb4 L (p + 6)
/-- how many parts -/
def s_pts (L : List Int32) (to : Nat) : Nat → Nat → Nat → Nat
  | 0, _, k => k
  | f + 1, p, k => if p + 12 ≤ to ∧ nb L p = 255 ∧ nb L (p + 1) = 144 ∧ (nb4 L (p + 6) = 0 ∨ 14 ≤ nb4 L (p + 6)) then s_pts L to f (s_nx L p to) (k + 1) else k
section
variable {w : PW} {rt nt : Nat} {L : List Int32} {ft : Nat → Int32} {he tw th : Int32} {sz dp nm sy sp : Nat → Int32} {lc cnt : Int32} {pa : Nat → Nat → Int32}
theorem qPH.begins (h : qPH w rt nt L ft he tw th sz dp nm sy sp lc cnt pa) (p to : Nat) (hp : p ≤ to) (hto : to ≤ L.length) : fPartReader_beginsPart 28 (Int32.ofNat p) (Int32.ofNat to) w = some (.inl (some (.int (if p + 12 ≤ to ∧ nb L p = 255 ∧ nb L (p + 1) = 144 ∧ (nb4 L (p + 6) = 0 ∨ 14 ≤ nb4 L (p + 6)) then 1 else 0))), w) := by
  have hl : L.length ≤ 20000 := h.1.2.1.2.2.2.1
  have l6 := nb4_lt h.1.2.1.by (p + 6)
  obtain ⟨f14, o14⟩ := h.O14
  obtain ⟨f27, o27⟩ := h.1.O27
  have m144 := qH_isCode h.1.1 h.1.2.1 p to 144 (by omega) hp hto
  have c12 : (12 : Int32) ≤ Int32.ofNat to - Int32.ofNat p ↔ 12 ≤ to - p := by
    rw [q_subn hp (by omega)]
    exact q_of_le (m := 12) (by omega) (by omega)
  have c0 : lg_cmp (Int64.ofNat (nb4 L (p + 6))) 0 = 0 ↔ nb4 L (p + 6) = 0 := q_c64e (y := 0) (by omega) (by omega)
  have c14 : lg_cmp (Int64.ofNat (nb4 L (p + 6))) 14 < 0 ↔ nb4 L (p + 6) < 14 := q_c64l (y := 14) (by omega) (by omega)
  unfold fPartReader_beginsPart
  rw [h.R.2.2.1, Option.bind_some, o27, Option.bind_some, show fHeadReader_isCode 27 (Int32.ofNat p) (Int32.ofNat to) 144 w = _ from m144, q_call, q_kI]
  by_cases k1 : p + 2 ≤ to ∧ nb L p = 255 ∧ nb L (p + 1) = 144
  · rw [if_pos k1, if_neg (by decide)]
    by_cases k2 : 12 ≤ to - p
    · rw [if_pos (c12.mpr k2), h.R.1, Option.bind_some, o14, Option.bind_some, show Int32.ofNat p + 6 = Int32.ofNat (p + 6) from (Int32.ofNat_add p 6).symm, h.1.n4 (p + 6) (by omega), q_call, q_kJ]
      by_cases k3 : nb4 L (p + 6) = 0
      · rw [if_pos (c0.mpr k3), if_pos ⟨by omega, k1.2.1, k1.2.2, Or.inl k3⟩]
        rfl
      · rw [if_neg (fun y => k3 (c0.mp y))]
        by_cases k4 : nb4 L (p + 6) < 14
        · rw [if_pos (c14.mpr k4), if_neg (by omega)]
          rfl
        · rw [if_neg (fun y => k4 (c14.mp y)), if_pos ⟨by omega, k1.2.1, k1.2.2, Or.inr (by omega)⟩]
          rfl
    · rw [if_neg (fun y => k2 (c12.mp y)), if_neg (by omega)]
      rfl
  · rw [if_neg k1, if_pos rfl, if_neg (fun y => k1 ⟨by omega, y.2.1, y.2.2.1⟩)]
    rfl
theorem qPH.parts (to many : Nat) (hto : to ≤ L.length) (hm : sz 2 = Int32.ofNat many) (hm4 : many ≤ 4) : ∀ (f p k F m : Nat) (w : PW) (nm sy sp : Nat → Int32) (pa : Nat → Nat → Int32), qPH w rt nt L ft he tw th sz dp nm sy sp (Int32.ofNat m) (Int32.ofNat k) pa → m ≤ 200 → p ≤ to → k + f = 300 → f < F → ∃ w' nm' sy' sp' m' pa', fPartReader_readParts_5 F 28 (Int32.ofNat to) (Int32.ofNat p) (Int32.ofNat k) w = some (.inl none, w') ∧ qPH w' rt nt L ft he tw th sz dp nm' sy' sp' (Int32.ofNat m') (Int32.ofNat (s_pts L to f p k)) pa' ∧ m' ≤ 200 ∧ qK w w'
  | 0, p, k, F + 1, m, w, nm, sy, sp, pa, h, hm2, hp, hk, _ => by
    have c : (300 : Int32) ≤ Int32.ofNat k := (q_of_le (m := 300) (n := k) (by omega) (by omega)).mpr (by omega)
    rw [fPartReader_readParts_5, if_pos c]
    exact ⟨w, _, _, _, m, _, rfl, h, hm2, qK.rf⟩
  | f + 1, p, k, F + 1, m, w, nm, sy, sp, pa, h, hm2, hp, hk, hF => by
    have hl : L.length ≤ 20000 := h.1.2.1.2.2.2.1
    have l6 := nb4_lt h.1.2.1.by (p + 6)
    obtain ⟨f14, o14⟩ := h.O14
    obtain ⟨f28, o28⟩ := h.O28
    have c : ¬ (300 : Int32) ≤ Int32.ofNat k := fun y => by
      have := (q_of_le (m := 300) (n := k) (by omega) (by omega)).mp y
      omega
    rw [fPartReader_readParts_5, if_neg c, o28, Option.bind_some, h.begins p to hp hto, q_call, q_kI, s_pts]
    by_cases kb : p + 12 ≤ to ∧ nb L p = 255 ∧ nb L (p + 1) = 144 ∧ (nb4 L (p + 6) = 0 ∨ 14 ≤ nb4 L (p + 6))
    · rw [if_pos kb, if_neg (by decide), if_pos kb, h.R.1, Option.bind_some, o14, Option.bind_some, show Int32.ofNat p + 6 = Int32.ofNat (p + 6) from (Int32.ofNat_add p 6).symm, h.1.n4 (p + 6) (by omega), q_call, q_kJ, q_subn hp (by omega), q_64n _ (by omega)]
      have cl := q_c64le (x := nb4 L (p + 6)) (y := to - p) (by omega) (by omega)
      have c0 : lg_cmp (Int64.ofNat (nb4 L (p + 6))) 0 = 0 ↔ nb4 L (p + 6) = 0 := q_c64e (y := 0) (by omega) (by omega)
      have hnx : p + 12 ≤ s_nx L p to ∧ s_nx L p to ≤ to := by
        unfold s_nx
        split <;> omega
      have go : ∀ b : Int32, ∃ w' nm' sy' sp' m' pa', fPartReader_readParts_74 (fPartReader_readParts_5 F) 28 (Int32.ofNat to) (Int32.ofNat p) (Int32.ofNat k) b (Int32.ofNat (s_nx L p to)) w = some (.inl none, w') ∧ qPH w' rt nt L ft he tw th sz dp nm' sy' sp' (Int32.ofNat m') (Int32.ofNat (s_pts L to f (s_nx L p to) (k + 1))) pa' ∧ m' ≤ 200 ∧ qK w w' := by
        intro b
        unfold fPartReader_readParts_74
        obtain ⟨w1, g1, h1, F1⟩ := h.st 30 0 k (Int32.ofNat p) (by omega) (by omega) rfl (by show k < 300; omega)
        obtain ⟨w2, g2, h2, F2⟩ := h1.st 34 2 k (vp_nar .boolean b) (by omega) (by omega) rfl (by show k < 300; omega)
        obtain ⟨f2, o2⟩ := h2.O28
        rw [h.R.2.2.2.2.1, Option.bind_some, g1, Option.bind_some, h1.R.2.2.2.2.2.2.2.2.1, Option.bind_some, g2, Option.bind_some, o2, Option.bind_some]
        have h30 : (ug (ug pa 30 k (Int32.ofNat p)) 34 k (vp_nar .boolean b)) 30 k = Int32.ofNat p := by
          rw [ug_ne _ _ _ (by decide), ug_self]
          unfold upd
          rw [if_pos rfl]
        obtain ⟨w3, a1, a2, a3, m3, a5, g3, h3, l3, F3⟩ := h2.part hm2 many hm hm4 k p (s_nx L p to) (by omega) h30 hnx.1 (by omega)
        obtain ⟨w4, g4, h4, F4⟩ := h3.putC (Int32.ofNat (k + 1))
        rw [g3, q_call, q_kV, show Int32.ofNat k + 1 = Int32.ofNat (k + 1) from (Int32.ofNat_add k 1).symm, g4, Option.bind_some, q_let]
        obtain ⟨w5, b1, b2, b3, m5, b5, g5, h5, l5, F5⟩ := qPH.parts to many hto hm hm4 f (s_nx L p to) (k + 1) F m3 w4 _ _ _ _ h4 l3 hnx.2 (by omega) (by omega)
        exact ⟨w5, b1, b2, b3, m5, b5, g5, h5, l5, (((F1.tr F2).tr F3).tr F4).tr F5⟩
      unfold fPartReader_readParts_51
      by_cases kc : nb4 L (p + 6) ≤ to - p
      · rw [if_pos (cl.mpr kc), if_neg (not_not_intro rfl)]
        by_cases kz : nb4 L (p + 6) = 0
        · rw [if_neg (not_not_intro (c0.mpr kz))]
          have e : s_nx L p to = to := if_pos (Or.inl kz)
          have := go 0
          rw [e] at this ⊢
          exact this
        · rw [if_pos (fun y => kz (c0.mp y)), q_32n, show Int32.ofNat p + Int32.ofNat (nb4 L (p + 6)) = Int32.ofNat (p + nb4 L (p + 6)) from (Int32.ofNat_add _ _).symm]
          have e : s_nx L p to = p + nb4 L (p + 6) := if_neg (by omega)
          have := go 0
          rw [e] at this ⊢
          exact this
      · rw [if_neg (fun y => kc (cl.mp y)), if_pos (by decide)]
        have e : s_nx L p to = to := if_pos (Or.inr (by omega))
        have := go 1
        rw [e] at this ⊢
        exact this
    · rw [if_neg kb, if_pos rfl, if_neg kb]
      exact ⟨w, _, _, _, m, _, rfl, h, hm2, qK.rf⟩
end
