theorem q_ishl16 : ∀ b : Nat, b ≤ 255 → p_ishl (Int32.ofNat b) 16 = Int32.ofNat (b * 65536) := by decide +kernel
theorem q_ishl8 : ∀ b : Nat, b ≤ 255 → p_ishl (Int32.ofNat b) 8 = Int32.ofNat (b * 256) := by decide +kernel
theorem q_lshl24 : ∀ b : Nat, b ≤ 255 → p_lshl (Int64.ofNat b) 24 = Int64.ofNat (b * 16777216) := by decide +kernel
theorem q_or64 (x y : Nat) : Int64.ofNat x ||| Int64.ofNat y = Int64.ofNat (x ||| y) := by
  apply Int64.toBitVec_inj.mp
  show BitVec.ofNat 64 x ||| BitVec.ofNat 64 y = BitVec.ofNat 64 (x ||| y)
  apply BitVec.eq_of_toNat_eq
  simp [Nat.or_mod_two_pow]
theorem q_or32 (x y : Nat) : Int32.ofNat x ||| Int32.ofNat y = Int32.ofNat (x ||| y) := by
  apply Int32.toBitVec_inj.mp
  show BitVec.ofNat 32 x ||| BitVec.ofNat 32 y = BitVec.ofNat 32 (x ||| y)
  apply BitVec.eq_of_toNat_eq
  simp [Nat.or_mod_two_pow]
theorem q_ora (i a b : Nat) (h : b < 2 ^ i) : a * 2 ^ i ||| b = a * 2 ^ i + b := by
  rw [Nat.mul_comm]
  exact (Nat.two_pow_add_eq_or_of_lt h a).symm
theorem q_or4 {a b c d : Nat} (ha : a ≤ 255) (hb : b ≤ 255) (hc : c ≤ 255) (hd : d ≤ 255) : (((p_lshl (Int32.toInt64 (Int32.ofNat a)) 24) ||| (Int32.toInt64 (p_ishl (Int32.ofNat b) 16))) ||| (Int32.toInt64 (p_ishl (Int32.ofNat c) 8))) ||| (Int32.toInt64 (Int32.ofNat d)) = Int64.ofNat (((a * 256 + b) * 256 + c) * 256 + d) := by
  rw [q_ishl16 b hb, q_ishl8 c hc, q_64n a (by omega), q_64n _ (by omega), q_64n _ (by omega), q_64n d (by omega), q_lshl24 a ha, q_or64, q_or64, q_or64]
  congr 1
  rw [show a * 16777216 = a * 2 ^ 24 from rfl, q_ora 24 a (b * 65536) (by show _ < 16777216; omega), show a * 2 ^ 24 + b * 65536 = (a * 256 + b) * 2 ^ 16 by show a * 16777216 + b * 65536 = (a * 256 + b) * 65536; omega, q_ora 16 _ (c * 256) (by show _ < 65536; omega), show (a * 256 + b) * 2 ^ 16 + c * 256 = ((a * 256 + b) * 256 + c) * 2 ^ 8 by show (a * 256 + b) * 65536 + c * 256 = ((a * 256 + b) * 256 + c) * 256; omega, q_ora 8 _ d (by show _ < 256; omega)]
theorem q_or2 {a b : Nat} (ha : a ≤ 255) (hb : b ≤ 255) : p_ishl (Int32.ofNat a) 8 ||| Int32.ofNat b = Int32.ofNat (a * 256 + b) := by
  rw [q_ishl8 a ha, q_or32]
  congr 1
  exact q_ora 8 a b (by show _ < 256; omega)
/-- the reference finding the stream -/
def qZ (w0 : PW) (z0 : Nat → Int32) (g0 : Nat → Nat → Int32) (w : PW) (c : Int32) (U : List (Nat × Nat)) (a e br : Int32) : Prop := ∃ z g, qM w z g ∧ qI 37 66 w0 w ∧ (∀ k, k ≠ 26 → k ≠ 27 → k ≠ 39 → k ≠ 40 → k ≠ 41 → z k = z0 k) ∧ (∀ k, k ≠ 55 → k ≠ 56 → g k = g0 k) ∧ z 26 = c ∧ z 27 = Int32.ofNat U.length ∧ z 39 = a ∧ z 40 = e ∧ z 41 = br ∧ (∀ i (hi : i < U.length), g 55 i = Int32.ofNat (U[i]).1 ∧ g 56 i = Int32.ofNat ((U[i]).2 - (U[i]).1 - 8))
def qHd (z0 : Nat → Int32) (g0 : Nat → Nat → Int32) (L : List Int32) : Prop := qY g0 54 L ∧ z0 24 = Int32.ofNat L.length ∧ L.length ≤ 20000 ∧ qby L
section
variable {w0 w : PW} {z0 z : Nat → Int32} {g0 g : Nat → Nat → Int32} {c a e br : Int32} {U : List (Nat × Nat)} {L : List Int32}
theorem qM.had (h : qM w z g) (hy : qY g 54 L) (hL : qby L) (hl : L.length ≤ 20000) (p : Nat) (hp : p < L.length) : p_ald w 54 0 (Int32.ofNat p) = some (Int32.ofNat (nb L p)) := by
  rw [h.ldn 54 0 p rfl (by omega) (by omega) (by show p < 20000; omega) (by decide), hy p hp, ← q_byte_in hL p hp (by omega)]
  congr 1
  unfold q_byte
  rw [if_neg (by rw [q_lti, q_ofi (by omega)]; show ¬ (p : Int) < 0; omega), q_tno (by omega), List.getElem?_eq_getElem hp]
  rfl
theorem qM.four (h : qM w z g) (hy : qY g 54 L) (hL : qby L) (hl : L.length ≤ 20000) (p : Nat) (hp : p + 4 ≤ L.length) : fD_four 37 (Int32.ofNat p) w = some (.inl (some (.long (Int64.ofNat (nb4 L p)))), w) := by
  unfold fD_four nb4
  rw [h.R 23 54 rfl, Option.bind_some, h.had hy hL hl p (by omega), Option.bind_some, Option.bind_some, show Int32.ofNat p + 1 = Int32.ofNat (p + 1) from (Int32.ofNat_add p 1).symm, h.had hy hL hl (p + 1) (by omega), Option.bind_some, Option.bind_some, show Int32.ofNat p + 2 = Int32.ofNat (p + 2) from (Int32.ofNat_add p 2).symm, h.had hy hL hl (p + 2) (by omega), Option.bind_some, Option.bind_some, show Int32.ofNat p + 3 = Int32.ofNat (p + 3) from (Int32.ofNat_add p 3).symm, h.had hy hL hl (p + 3) (by omega), Option.bind_some, q_or4 (nb_le hL _) (nb_le hL _) (nb_le hL _) (nb_le hL _)]
theorem qM.two (h : qM w z g) (hy : qY g 54 L) (hL : qby L) (hl : L.length ≤ 20000) (p : Nat) (hp : p + 2 ≤ L.length) : fD_two 37 (Int32.ofNat p) w = some (.inl (some (.int (Int32.ofNat (nb2 L p)))), w) := by
  unfold fD_two nb2
  rw [h.R 23 54 rfl, Option.bind_some, h.had hy hL hl p (by omega), Option.bind_some, Option.bind_some, show Int32.ofNat p + 1 = Int32.ofNat (p + 1) from (Int32.ofNat_add p 1).symm, h.had hy hL hl (p + 1) (by omega), Option.bind_some, q_or2 (nb_le hL _) (nb_le hL _)]
theorem qZ.M (h : qZ w0 z0 g0 w c U a e br) (k : qHd z0 g0 L) : ∃ z g, qM w z g ∧ qY g 54 L ∧ z 24 = Int32.ofNat L.length := by
  obtain ⟨z, g, h1, h2, h3, h4, -⟩ := h
  refine ⟨z, g, h1, ?_, by rw [h3 24 (by decide) (by decide) (by decide) (by decide) (by decide), k.2.1]⟩
  intro i hi
  rw [h4 54 (by decide) (by decide)]
  exact k.1 i hi
theorem qZ.O (h : qZ w0 z0 g0 w c U a e br) : ∃ fs, p_obj w 37 10 = some fs := by
  obtain ⟨z, g, h1, -⟩ := h
  exact ⟨_, h1.obj⟩
theorem qZ.four (h : qZ w0 z0 g0 w c U a e br) (k : qHd z0 g0 L) (p : Nat) (hp : p + 4 ≤ L.length) : fD_four 37 (Int32.ofNat p) w = some (.inl (some (.long (Int64.ofNat (nb4 L p)))), w) := by
  obtain ⟨z, g, h1, hy, -⟩ := h.M k
  exact h1.four hy k.2.2.2 k.2.2.1 p hp
theorem qZ.two (h : qZ w0 z0 g0 w c U a e br) (k : qHd z0 g0 L) (p : Nat) (hp : p + 2 ≤ L.length) : fD_two 37 (Int32.ofNat p) w = some (.inl (some (.int (Int32.ofNat (nb2 L p)))), w) := by
  obtain ⟨z, g, h1, hy, -⟩ := h.M k
  exact h1.two hy k.2.2.2 k.2.2.1 p hp
theorem qZ.had (h : qZ w0 z0 g0 w c U a e br) (k : qHd z0 g0 L) (p : Nat) (hp : p < L.length) : p_ald w 54 0 (Int32.ofNat p) = some (Int32.ofNat (nb L p)) := by
  obtain ⟨z, g, h1, hy, -⟩ := h.M k
  exact h1.had hy k.2.2.2 k.2.2.1 p hp
theorem qZ.end (h : qZ w0 z0 g0 w c U a e br) (k : qHd z0 g0 L) (p to : Nat) (hp : p ≤ to) (hto : to ≤ L.length) (cut : Bool) : fD_endOf 37 (Int32.ofNat p) (Int32.ofNat to) (if cut = true then 0 else 1) w = some (.inl (some (.int (oN (s_end L p to cut)))), w) := by
  have hl := k.2.2.1
  have hlt := nb4_lt k.2.2.2 p
  have hlt4 := nb4_lt k.2.2.2 (p + 4)
  obtain ⟨f0, o0⟩ := h.O
  unfold fD_endOf s_end fD_endOf_40 fD_endOf_76
  rw [q_subn hp (by omega)]
  have c8 : ((8 : Int32) ≤ Int32.ofNat (to - p)) ↔ 8 ≤ to - p := q_of_le (m := 8) (n := to - p) (by omega) (by omega)
  have c0 : lg_cmp (Int64.ofNat (nb4 L p)) 0 = 0 ↔ nb4 L p = 0 := q_c64e (x := nb4 L p) (y := 0) (by omega) (by omega)
  have cg : lg_cmp (Int64.ofNat (nb4 L p)) 8 < 0 ↔ nb4 L p < 8 := q_c64l (x := nb4 L p) (y := 8) (by omega) (by omega)
  have hk : lg_cmp (Int64.ofNat (nb4 L (p + 4))) 1785737827 = 0 ↔ nb4 L (p + 4) = 1785737827 := q_c64e (y := 1785737827) (by omega) (by omega)
  have es : Int32.toInt64 (Int32.ofNat p) + Int64.ofNat (nb4 L p) = Int64.ofNat (p + nb4 L p) := by
    rw [q_64n p (by omega)]
    exact (Int64.ofNat_add _ _).symm
  have cl := q_c64le (x := p + nb4 L p) (y := to) (by omega) (by omega)
  by_cases h8 : to < p + 8
  · rw [if_neg (fun hh => by have := c8.mp hh; omega), if_pos h8]
    rfl
  · rw [if_pos (c8.mpr (by omega)), if_neg h8, o0, Option.bind_some, h.four k p (by omega), q_call, q_kJ, o0, Option.bind_some, show Int32.ofNat p + 4 = Int32.ofNat (p + 4) from (Int32.ofNat_add p 4).symm, h.four k (p + 4) (by omega), q_call, q_kJ, es, q_64n to (by omega), q_32n]
    by_cases h0 : nb4 L p = 0
    · have c0' := c0.mpr h0
      rw [if_pos h0]
      simp only [c0', if_true, ite_self]
      rfl
    · have c0' : ¬ lg_cmp (Int64.ofNat (nb4 L p)) 0 = 0 := fun x => h0 (c0.mp x)
      rw [if_neg h0]
      simp only [c0', if_false]
      by_cases h1 : nb4 L p < 8
      · have cg' := cg.mpr h1
        simp only [cg', if_true, h1, ite_self]
        rfl
      · have cg' : ¬ lg_cmp (Int64.ofNat (nb4 L p)) 8 < 0 := fun x => h1 (cg.mp x)
        simp only [cg', if_false, h1]
        by_cases h2 : p + nb4 L p ≤ to
        · have cl' := cl.mpr h2
          simp only [cl', if_true, h2, ite_self]
          rfl
        · have cl' : ¬ lg_cmp (Int64.ofNat (p + nb4 L p)) (Int64.ofNat to) ≤ 0 := fun x => h2 (cl.mp x)
          simp only [cl', if_false, h2]
          by_cases h3 : nb4 L (p + 4) = 1785737827
          · have hk' := hk.mpr h3
            simp only [hk', not_true, if_false]
            cases cut
            · rw [if_neg (show ¬ (false = true ∧ nb4 L (p + 4) = 1785737827) from fun x => by cases x.1)]
              rfl
            · rw [if_pos (show true = true ∧ nb4 L (p + 4) = 1785737827 from ⟨rfl, h3⟩)]
              rfl
          · have hk' : ¬ lg_cmp (Int64.ofNat (nb4 L (p + 4))) 1785737827 = 0 := fun x => h3 (hk.mp x)
            rw [if_neg (show ¬ (cut = true ∧ nb4 L (p + 4) = 1785737827) from fun x => h3 x.2)]
            simp only [hk', not_false_eq_true, if_true]
            rfl
end
def o1 : Option Nat → Int32
  | none => 1
  | some _ => 0
section
variable {w0 w : PW} {z0 z : Nat → Int32} {g0 g : Nat → Nat → Int32} {c a e br : Int32} {U : List (Nat × Nat)} {L : List Int32}
theorem qZ.put (h : qZ w0 z0 g0 w c U a e br) (k : Nat) (v : Int32) (hk : k = 26 ∨ k = 39 ∨ k = 40 ∨ k = 41) : ∃ w', p_put w 37 10 k (.int v) = some w' ∧ qZ w0 z0 g0 w' (if k = 26 then v else c) U (if k = 39 then v else a) (if k = 40 then v else e) (if k = 41 then v else br) := by
  obtain ⟨z, g, h1, h2, h3, h4, h5, h6, h7, h8, h9, hU⟩ := h
  obtain ⟨w1, g1, q1, F1⟩ := h1.put k v (by omega) (by rcases hk with e | e | e | e <;> subst e <;> rfl)
  refine ⟨w1, g1, upd z k v, g, q1, h2.tr F1, fun j a1 a2 a3 a4 a5 => ?_, h4, ?_, ?_, ?_, ?_, ?_, hU⟩
  · unfold upd
    rw [if_neg (by omega), h3 j a1 a2 a3 a4 a5]
  all_goals
    unfold upd
    rcases hk with e | e | e | e <;> subst e <;> first | rfl | assumption
theorem qZ.I (h : qZ w0 z0 g0 w c U a e br) : p_getI w 37 10 26 = some c ∧ p_getI w 37 10 27 = some (Int32.ofNat U.length) ∧ p_getI w 37 10 39 = some a ∧ p_getI w 37 10 40 = some e ∧ p_getI w 37 10 41 = some br := by
  obtain ⟨z, g, h1, h2, h3, h4, h5, h6, h7, h8, h9, hU⟩ := h
  exact ⟨by rw [h1.I 26 rfl, h5], by rw [h1.I 27 rfl, h6], by rw [h1.I 39 rfl, h7], by rw [h1.I 40 rfl, h8], by rw [h1.I 41 rfl, h9]⟩
theorem qZ.many (h : qZ w0 z0 g0 w c U a e br) (k : qHd z0 g0 L) : p_getI w 37 10 24 = some (Int32.ofNat L.length) := by
  obtain ⟨z, g, h1, -, hz⟩ := h.M k
  rw [h1.I 24 rfl, hz]
theorem qZ.R (h : qZ w0 z0 g0 w c U a e br) (k r : Nat) (hk : ∀ z, (mO z)[k]? = some (.ref r)) : p_getR w 37 10 k = some r := by
  obtain ⟨z, g, h1, -⟩ := h
  exact h1.R k r (hk z)
theorem qZ.fails (h : qZ w0 z0 g0 w c U a e (-1)) (p : Int32) : ∃ w', fD_fails 37 p w = some (.inl (some (.int 0)), w') ∧ qZ w0 z0 g0 w' c U a e p := by
  unfold fD_fails
  obtain ⟨w1, g1, h1⟩ := h.put 41 p (by omega)
  rw [h.I.2.2.2.2, Option.bind_some, if_neg (not_not_intro rfl), g1, Option.bind_some]
  exact ⟨w1, rfl, h1⟩
theorem qZ.unknown (h : qZ w0 z0 g0 w c U a e br) (p x : Nat) (hx : p + 8 ≤ x) (hx2 : x ≤ 20000) (hU : U.length < 2600) : ∃ w', fD_keepUnknown 37 (Int32.ofNat p) (Int32.ofNat x) w = some (.inl none, w') ∧ qZ w0 z0 g0 w' c (U ++ [(p, x)]) a e br := by
  obtain ⟨z, g, h1, h2, h3, h4, h5, h6, h7, h8, h9, hA⟩ := h
  unfold fD_keepUnknown
  rw [h1.R 28 55 rfl, Option.bind_some, h1.I 27 rfl, Option.bind_some, h6]
  obtain ⟨w1, g1, q1, F1⟩ := h1.stn 55 0 U.length (Int32.ofNat p) rfl (by omega) (by omega) (by show _ < 2600; omega) (by decide)
  rw [g1, Option.bind_some, q1.R 29 56 rfl, Option.bind_some, q1.I 27 rfl, Option.bind_some, h6, q_subn (by omega) (by omega), show Int32.ofNat (x - p) - 8 = Int32.ofNat (x - p - 8) from q_subn (a := 8) (by omega) (by omega)]
  obtain ⟨w2, g2, q2, F2⟩ := q1.stn 56 0 U.length (Int32.ofNat (x - p - 8)) rfl (by omega) (by omega) (by show _ < 2600; omega) (by decide)
  rw [g2, Option.bind_some, q2.I 27 rfl, Option.bind_some, h6, show Int32.ofNat U.length + 1 = Int32.ofNat (U.length + 1) from (Int32.ofNat_add _ 1).symm]
  obtain ⟨w3, g3, q3, F3⟩ := q2.put 27 (Int32.ofNat (U.length + 1)) (by omega) rfl
  rw [g3, Option.bind_some]
  refine ⟨w3, rfl, _, _, q3, ((h2.tr F1).tr F2).tr F3, fun k a1 a2 a3 a4 a5 => ?_, fun k a1 a2 => ?_, ?_, ?_, ?_, ?_, ?_, fun i hi => ?_⟩
  · unfold upd
    rw [if_neg a2, h3 k a1 a2 a3 a4 a5]
  · rw [ug_ne _ _ _ a2, ug_ne _ _ _ a1, h4 k a1 a2]
  · exact h5
  · rw [List.length_append]
    rfl
  · exact h7
  · exact h8
  · exact h9
  · have e5 : (ug (ug g 55 U.length (Int32.ofNat p)) 56 U.length (Int32.ofNat (x - p - 8))) 55 = upd (g 55) U.length (Int32.ofNat p) := by rw [ug_ne _ _ _ (by decide), ug_self]
    have e6 : (ug (ug g 55 U.length (Int32.ofNat p)) 56 U.length (Int32.ofNat (x - p - 8))) 56 = upd (g 56) U.length (Int32.ofNat (x - p - 8)) := by rw [ug_self, ug_ne _ _ _ (by decide)]
    rw [e5, e6]
    unfold upd
    by_cases hq : i = U.length
    · subst hq
      rw [if_pos rfl, if_pos rfl, List.getElem_append_right (by omega)]
      simp
    · have hi' : i < U.length := by rw [List.length_append] at hi; simp at hi; omega
      rw [if_neg hq, if_neg hq, List.getElem_append_left hi']
      exact hA i hi'
theorem qZ.in5 (k : qHd z0 g0 L) (to : Nat) (hto : to ≤ L.length) : ∀ (f : Nat) (first : Bool) (p F : Nat) (w : PW) (c : Int32) (U : List (Nat × Nat)), qZ w0 z0 g0 w c U a e (-1) → p ≤ to → to < p + 8 * f → f < F → 8 * U.length ≤ p → ∃ w', fD_readInside_5 F 37 (Int32.ofNat to) (Int32.ofNat p) (if first = true then 1 else 0) w = some (.inl (some (.int (o1 (s_in L to f first p c U).1))), w') ∧ qZ w0 z0 g0 w' (s_in L to f first p c U).2.1 (s_in L to f first p c U).2.2 a e (oN (s_in L to f first p c U).1)
  | 0, first, p, F, w, c, U, h, hp, hf, _, _ => by omega
  | f + 1, first, p, F + 1, w, c, U, h, hp, hf, hF, hU => by
    have hl := k.2.2.1
    have ct : Int32.ofNat to ≤ Int32.ofNat p ↔ to ≤ p := q_of_le (by omega) (by omega)
    obtain ⟨f0, o0⟩ := h.O
    rw [fD_readInside_5, s_in]
    have go : ¬ (first = false ∧ to ≤ p) → (if ¬ (if first = true then (1 : Int32) else 0) = 0 then fD_readInside_15 (fD_readInside_5 F) 37 (Int32.ofNat to) (Int32.ofNat p) (if first = true then 1 else 0) w else if Int32.ofNat to ≤ Int32.ofNat p then p_retZ 1 w else fD_readInside_15 (fD_readInside_5 F) 37 (Int32.ofNat to) (Int32.ofNat p) (if first = true then 1 else 0) w) = fD_readInside_15 (fD_readInside_5 F) 37 (Int32.ofNat to) (Int32.ofNat p) (if first = true then 1 else 0) w := by
      intro hh
      cases first
      · rw [if_neg (show ¬ ¬ (if false = true then (1 : Int32) else 0) = 0 from not_not_intro rfl), if_neg (fun x => hh ⟨rfl, ct.mp x⟩)]
      · rw [if_pos (show ¬ (if true = true then (1 : Int32) else 0) = 0 by decide)]
    by_cases h1 : first = false ∧ to ≤ p
    · rw [if_pos h1, h1.1, if_neg (show ¬ ¬ (if false = true then (1 : Int32) else 0) = 0 from not_not_intro rfl), if_pos (ct.mpr h1.2)]
      exact ⟨w, rfl, h⟩
    · rw [go h1, if_neg h1]
      have he := h.end k p to hp hto false
      unfold fD_readInside_15
      rw [o0, Option.bind_some, show fD_endOf 37 (Int32.ofNat p) (Int32.ofNat to) 1 w = _ from he, q_call, q_kI]
      have bad : ∃ w', fD_readInside_58 37 (Int32.ofNat p) w = some (.inl (some (.int 0)), w') ∧ qZ w0 z0 g0 w' c U a e (Int32.ofNat p) := by
        unfold fD_readInside_58
        obtain ⟨w1, g1, h1'⟩ := h.fails (Int32.ofNat p)
        rw [o0, Option.bind_some, g1, q_call, q_kI]
        exact ⟨w1, rfl, h1'⟩
      cases hs : s_end L p to false with
      | none =>
        rw [if_pos (show oN none = -1 from rfl)]
        exact bad
      | some x =>
        have hx := s_end_le hs
        rw [show oN (some x) = Int32.ofNat x from rfl]
        dsimp only
        have hk4 := nb4_lt k.2.2.2 (p + 4)
        rw [if_neg (oN_ne (by omega)), show Int32.ofNat p + 4 = Int32.ofNat (p + 4) from (Int32.ofNat_add p 4).symm]
        have nx : ∀ (w' : PW) (c' : Int32) (U' : List (Nat × Nat)), qZ w0 z0 g0 w' c' U' a e (-1) → 8 * U'.length ≤ x → ∃ w'', fD_readInside_5 F 37 (Int32.ofNat to) (Int32.ofNat x) 0 w' = some (.inl (some (.int (o1 (s_in L to f false x c' U').1))), w'') ∧ qZ w0 z0 g0 w'' (s_in L to f false x c' U').2.1 (s_in L to f false x c' U').2.2 a e (oN (s_in L to f false x c' U').1) := fun w' c' U' h' hU' =>
          qZ.in5 k to hto f false x F w' c' U' h' (by omega) (by omega) (by omega) hU'
        have ckc : lg_cmp (Int64.ofNat (nb4 L (p + 4))) 1668246642 = 0 ↔ nb4 L (p + 4) = 1668246642 := q_c64e (y := 1668246642) (by omega) (by omega)
        cases first
        · rw [if_pos (show (if false = true then (1 : Int32) else 0) = 0 from rfl), if_neg (show ¬ false = true by decide)]
          unfold fD_readInside_64 fD_readInside_105 fD_readInside_140
          rw [o0, Option.bind_some, show Int32.ofNat p + 4 = Int32.ofNat (p + 4) from (Int32.ofNat_add p 4).symm, h.four k (p + 4) (by omega), q_call, q_kJ]
          have c15 : Int32.ofNat x - Int32.ofNat p < 15 ↔ x - p < 15 := by rw [q_subn (by omega) (by omega)]; exact q_lt (n := 15) (by omega) (by omega)
          have keep : ∃ w', (p_obj w 37 10).bind (fun _ => p_call (fD_keepUnknown 37 (Int32.ofNat p) (Int32.ofNat x) w) <| p_kV fun w137 => fD_readInside_5 F 37 (Int32.ofNat to) (Int32.ofNat x) 0 w137) = some (.inl (some (.int (o1 (s_in L to f false x c (U ++ [(p, x)])).1))), w') ∧ qZ w0 z0 g0 w' (s_in L to f false x c (U ++ [(p, x)])).2.1 (s_in L to f false x c (U ++ [(p, x)])).2.2 a e (oN (s_in L to f false x c (U ++ [(p, x)])).1) := by
            obtain ⟨w1, g1, h1'⟩ := h.unknown p x (by omega) (by omega) (by omega)
            rw [o0, Option.bind_some, g1, q_call, q_kV]
            exact nx w1 c _ h1' (by simp; omega)
          have z0' : ¬ ¬ (0 : Int32) = 0 := not_not_intro rfl
          rw [if_neg z0']
          by_cases h2 : nb4 L (p + 4) = 1668246642
          · rw [if_neg (not_not_intro (ckc.mpr h2))]
            by_cases h3 : p + 15 ≤ x
            · have hb1 := nb_le k.2.2.2 (p + 8)
              have c1 : Int32.ofNat (nb L (p + 8)) = 1 ↔ nb L (p + 8) = 1 := q_of32 (y := 1) (by omega) (by omega)
              rw [if_neg (fun y => by have := c15.mp y; omega), h.R 23 54 (fun _ => rfl), Option.bind_some, show Int32.ofNat p + 8 = Int32.ofNat (p + 8) from (Int32.ofNat_add p 8).symm, h.had k (p + 8) (by omega), Option.bind_some]
              by_cases h4 : nb L (p + 8) = 1
              · rw [if_neg (not_not_intro (c1.mpr h4)), if_pos (show nb4 L (p + 4) = 1668246642 ∧ p + 15 ≤ x ∧ nb L (p + 8) = 1 from ⟨h2, h3, h4⟩), if_neg (by decide), o0, Option.bind_some, show Int32.ofNat p + 11 = Int32.ofNat (p + 11) from (Int32.ofNat_add p 11).symm, h.four k (p + 11) (by omega), q_call, q_kJ, q_32n]
                obtain ⟨w1, g1, h1'⟩ := h.put 26 (Int32.ofNat (nb4 L (p + 11))) (Or.inl rfl)
                rw [g1, Option.bind_some]
                exact nx w1 _ U h1' (by omega)
              · rw [if_pos (fun y => h4 (c1.mp y)), if_neg (show ¬ (nb4 L (p + 4) = 1668246642 ∧ p + 15 ≤ x ∧ nb L (p + 8) = 1) from fun y => h4 y.2.2), if_pos rfl]
                exact keep
            · rw [if_pos (c15.mpr (by omega)), if_neg (show ¬ (nb4 L (p + 4) = 1668246642 ∧ p + 15 ≤ x ∧ nb L (p + 8) = 1) from fun y => h3 y.2.1), if_pos rfl]
              exact keep
          · rw [if_pos (fun y => h2 (ckc.mp y)), if_neg (show ¬ (nb4 L (p + 4) = 1668246642 ∧ p + 15 ≤ x ∧ nb L (p + 8) = 1) from fun y => h2 y.1), if_pos rfl]
            exact keep
        · rw [if_neg (show ¬ (if true = true then (1 : Int32) else 0) = 0 by decide), if_pos rfl, o0, Option.bind_some, h.four k (p + 4) (by omega), q_call, q_kJ]
          have ck : lg_cmp (Int64.ofNat (nb4 L (p + 4))) 1768449138 = 0 ↔ nb4 L (p + 4) = 1768449138 := q_c64e (y := 1768449138) (by omega) (by omega)
          have c22 : Int32.ofNat x - Int32.ofNat p = 22 ↔ x - p = 22 := by rw [q_subn (by omega) (by omega)]; exact q_of32 (y := 22) (by omega) (by omega)
          by_cases h2 : nb4 L (p + 4) = 1768449138
          · rw [if_neg (not_not_intro (ck.mpr h2))]
            by_cases h3 : x = p + 22
            · rw [if_pos (c22.mpr (by omega)), if_pos (show nb4 L (p + 4) = 1768449138 ∧ x = p + 22 from ⟨h2, h3⟩)]
              unfold fD_readInside_64 fD_readInside_105 fD_readInside_140
              rw [o0, Option.bind_some, show Int32.ofNat p + 4 = Int32.ofNat (p + 4) from (Int32.ofNat_add p 4).symm, h.four k (p + 4) (by omega), q_call, q_kJ, if_pos (fun y => by have := ckc.mp y; omega), if_pos rfl, if_pos (by decide)]
              exact nx w c U h (by omega)
            · rw [if_neg (fun y => by have := c22.mp y; omega), if_neg (show ¬ (nb4 L (p + 4) = 1768449138 ∧ x = p + 22) from fun y => h3 y.2)]
              exact bad
          · rw [if_pos (fun y => h2 (ck.mp y)), if_neg (show ¬ (nb4 L (p + 4) = 1768449138 ∧ x = p + 22) from fun y => h2 y.1)]
            exact bad
end
section
variable {w0 w : PW} {z0 z : Nat → Int32} {g0 g : Nat → Nat → Int32} {c a e br : Int32} {U : List (Nat × Nat)} {L : List Int32}
theorem qZ.bx16 (k : qHd z0 g0 L) : ∀ (f p F : Nat) (w : PW) (c : Int32) (U : List (Nat × Nat)), qZ w0 z0 g0 w c U a e (-1) → p ≤ L.length → L.length < p + 8 * f → f < F → 8 * U.length ≤ p → ∃ w', fD_readBoxes_16 F 37 (Int32.ofNat p) w = some (.inl (some (.int (o1 (s_bx L L.length f p c U).1))), w') ∧ qZ w0 z0 g0 w' (s_bx L L.length f p c U).2.1 (s_bx L L.length f p c U).2.2.1 (oF a (s_bx L L.length f p c U).2.2.2) (oE e (s_bx L L.length f p c U).2.2.2) (oN (s_bx L L.length f p c U).1)
  | 0, p, F, w, c, U, h, hp, hf, _, _ => by omega
  | f + 1, p, F + 1, w, c, U, h, hp, hf, hF, hU => by
    have hl := k.2.2.1
    have ct : Int32.ofNat L.length ≤ Int32.ofNat p ↔ L.length ≤ p := q_of_le (by omega) (by omega)
    obtain ⟨f0, o0⟩ := h.O
    rw [fD_readBoxes_16, s_bx, h.many k, Option.bind_some]
    by_cases h1 : L.length ≤ p
    · rw [if_pos (ct.mpr h1), if_pos h1, Option.bind_some, o0, Option.bind_some]
      obtain ⟨w1, g1, h1'⟩ := h.fails (Int32.ofNat L.length)
      rw [g1, q_call, q_kI]
      exact ⟨w1, rfl, h1'⟩
    · rw [if_neg (fun x => h1 (ct.mp x)), if_neg h1, Option.bind_some, o0, Option.bind_some]
      have he := h.end k p L.length hp (Nat.le_refl _) true
      rw [show fD_endOf 37 (Int32.ofNat p) (Int32.ofNat L.length) 0 w = _ from he, q_call, q_kI]
      cases hs : s_end L p L.length true with
      | none =>
        obtain ⟨w1, g1, h1'⟩ := h.fails (Int32.ofNat p)
        rw [if_neg (not_not_intro (show oN none = -1 from rfl)), o0, Option.bind_some, g1, q_call, q_kI]
        exact ⟨w1, rfl, h1'⟩
      | some x =>
        have hx := s_end_le hs
        rw [show oN (some x) = Int32.ofNat x from rfl]
        dsimp only
        have hk4 := nb4_lt k.2.2.2 (p + 4)
        rw [if_pos (oN_ne (by omega)), o0, Option.bind_some, show Int32.ofNat p + 4 = Int32.ofNat (p + 4) from (Int32.ofNat_add p 4).symm, h.four k (p + 4) (by omega), q_call, q_kJ]
        have ck1 : lg_cmp (Int64.ofNat (nb4 L (p + 4))) 1785737827 = 0 ↔ nb4 L (p + 4) = 1785737827 := q_c64e (y := 1785737827) (by omega) (by omega)
        have ck2 : lg_cmp (Int64.ofNat (nb4 L (p + 4))) 1785737832 = 0 ↔ nb4 L (p + 4) = 1785737832 := q_c64e (y := 1785737832) (by omega) (by omega)
        have ck3 : lg_cmp (Int64.ofNat (nb4 L (p + 4))) 1718909296 = 0 ↔ nb4 L (p + 4) = 1718909296 := q_c64e (y := 1718909296) (by omega) (by omega)
        have e8 : Int32.ofNat p + 8 = Int32.ofNat (p + 8) := (Int32.ofNat_add p 8).symm
        rw [e8]
        have nx : ∀ (w' : PW) (c' : Int32) (U' : List (Nat × Nat)), qZ w0 z0 g0 w' c' U' a e (-1) → 8 * U'.length ≤ x → ∃ w'', fD_readBoxes_16 F 37 (Int32.ofNat x) w' = some (.inl (some (.int (o1 (s_bx L L.length f x c' U').1))), w'') ∧ qZ w0 z0 g0 w'' (s_bx L L.length f x c' U').2.1 (s_bx L L.length f x c' U').2.2.1 (oF a (s_bx L L.length f x c' U').2.2.2) (oE e (s_bx L L.length f x c' U').2.2.2) (oN (s_bx L L.length f x c' U').1) := fun w' c' U' h' hU' =>
          qZ.bx16 k f x F w' c' U' h' (by omega) (by omega) (by omega) hU'
        by_cases h2 : nb4 L (p + 4) = 1785737827
        · obtain ⟨w1, g1, a1⟩ := h.put 39 (Int32.ofNat (p + 8)) (Or.inr (Or.inl rfl))
          obtain ⟨w2, g2, a2⟩ := a1.put 40 (Int32.ofNat x) (Or.inr (Or.inr (Or.inl rfl)))
          rw [if_neg (not_not_intro (ck1.mpr h2)), g1, Option.bind_some, g2, Option.bind_some, if_pos h2]
          exact ⟨w2, rfl, a2⟩
        · rw [if_pos (fun x => h2 (ck1.mp x)), if_neg h2]
          by_cases h3 : nb4 L (p + 4) = 1785737832
          · rw [if_neg (not_not_intro (ck2.mpr h3)), if_pos h3, o0, Option.bind_some]
            unfold fD_readInside
            obtain ⟨w1, g1, a1⟩ := qZ.in5 k x (by omega) 2600 true (p + 8) FUEL w c U h (by omega) (by omega) (by decide) (by omega)
            rw [show fD_readInside_5 FUEL 37 (Int32.ofNat x) (Int32.ofNat (p + 8)) 1 w = _ from g1, q_call, q_kI]
            have hi := s_in_len L x 2600 true (p + 8) c U (by omega) (by omega)
            cases hr : (s_in L x 2600 true (p + 8) c U).1 with
            | some b =>
              rw [if_neg (not_not_intro (show o1 (some b) = 0 from rfl))]
              rw [hr] at a1
              exact ⟨w1, rfl, a1⟩
            | none =>
              rw [if_pos (show ¬ o1 none = 0 by decide)]
              rw [hr] at a1
              exact nx w1 _ _ a1 hi
          · rw [if_pos (fun x => h3 (ck2.mp x)), if_neg h3]
            by_cases h4 : nb4 L (p + 4) = 1718909296
            · rw [if_pos (ck3.mpr h4), if_pos h4]
              exact nx w c U h (by omega)
            · rw [if_neg (fun x => h4 (ck3.mp x)), if_neg h4, o0, Option.bind_some]
              obtain ⟨w1, g1, a1⟩ := h.unknown p x (by omega) (by omega) (by omega)
              rw [g1, q_call, q_kV]
              exact nx w1 c _ a1 (by simp; omega)
theorem qZ.right (h : qZ w0 z0 g0 w c U a e br) (k : qHd z0 g0 L) : ∃ v, fD_isFirstRight 37 w = some (.inl (some (.int v)), w) ∧ (v = 0 ↔ ¬ s_sig L) := by
  have hl := k.2.2.1
  have l0 := nb4_lt k.2.2.2 0
  have l4 := nb4_lt k.2.2.2 4
  have l8 := nb4_lt k.2.2.2 8
  obtain ⟨f0, o0⟩ := h.O
  have c12 : Int32.ofNat L.length < 12 ↔ L.length < 12 := q_lt (n := 12) (by omega) (by omega)
  have k0' : lg_cmp (Int64.ofNat (nb4 L 0)) 12 = 0 ↔ nb4 L 0 = 12 := q_c64e (y := 12) (by omega) (by omega)
  have k4 : lg_cmp (Int64.ofNat (nb4 L 4)) 1783636000 = 0 ↔ nb4 L 4 = 1783636000 := q_c64e (y := 1783636000) (by omega) (by omega)
  have k8 : lg_cmp (Int64.ofNat (nb4 L 8)) 218793738 = 0 ↔ nb4 L 8 = 218793738 := q_c64e (y := 218793738) (by omega) (by omega)
  unfold fD_isFirstRight s_sig
  rw [h.many k, Option.bind_some]
  by_cases h1 : L.length < 12
  · rw [if_pos (c12.mpr h1)]
    exact ⟨0, rfl, fun _ => by omega, fun _ => rfl⟩
  · rw [if_neg (fun x => h1 (c12.mp x)), o0, Option.bind_some, show fD_four 37 0 w = _ from h.four k 0 (by omega), q_call, q_kJ]
    by_cases h2 : nb4 L 0 = 12
    · rw [if_neg (not_not_intro (k0'.mpr h2)), o0, Option.bind_some, show fD_four 37 4 w = _ from h.four k 4 (by omega), q_call, q_kJ]
      by_cases h3 : nb4 L 4 = 1783636000
      · rw [if_neg (not_not_intro (k4.mpr h3)), o0, Option.bind_some, show fD_four 37 8 w = _ from h.four k 8 (by omega), q_call, q_kJ]
        by_cases h4 : nb4 L 8 = 218793738
        · rw [if_neg (not_not_intro (k8.mpr h4))]
          exact ⟨1, rfl, fun x => absurd x (by decide), fun x => absurd ⟨by omega, h2, h3, h4⟩ x⟩
        · rw [if_pos (fun x => h4 (k8.mp x))]
          exact ⟨0, rfl, fun _ x => h4 x.2.2.2, fun _ => rfl⟩
      · rw [if_pos (fun x => h3 (k4.mp x))]
        exact ⟨0, rfl, fun _ x => h3 x.2.2.1, fun _ => rfl⟩
    · rw [if_pos (fun x => h2 (k0'.mp x))]
      exact ⟨0, rfl, fun _ x => h2 x.2.1, fun _ => rfl⟩
theorem qM.mark (h : qM w z g) (hy : qY g 54 L) (hL : qby L) (hl : L.length ≤ 20000) (p to : Nat) (m : Nat) (hm : m ≤ 255) (hp : p ≤ to) (hto : to ≤ L.length) : fD_isMark 37 (Int32.ofNat p) (Int32.ofNat to) (Int32.ofNat m) w = some (.inl (some (.int (if p + 2 ≤ to ∧ nb L p = 255 ∧ nb L (p + 1) = m then 1 else 0))), w) := by
  have n0 := nb_le hL p
  have n1 := nb_le hL (p + 1)
  have c2 : Int32.ofNat (to - p) < 2 ↔ to - p < 2 := q_lt (n := 2) (by omega) (by omega)
  have c0 : Int32.ofNat (nb L p) = 255 ↔ nb L p = 255 := q_of32 (y := 255) (by omega) (by omega)
  have c1 : Int32.ofNat (nb L (p + 1)) = Int32.ofNat m ↔ nb L (p + 1) = m := q_of32 (by omega) (by omega)
  unfold fD_isMark
  rw [q_subn hp (by omega)]
  by_cases h1 : to - p < 2
  · rw [if_pos (c2.mpr h1), if_neg (by omega)]
    rfl
  · rw [if_neg (fun x => h1 (c2.mp x)), h.R 23 54 rfl, Option.bind_some, h.had hy hL hl p (by omega), Option.bind_some]
    by_cases h2 : nb L p = 255
    · rw [if_neg (not_not_intro (c0.mpr h2)), Option.bind_some, show Int32.ofNat p + 1 = Int32.ofNat (p + 1) from (Int32.ofNat_add p 1).symm, h.had hy hL hl (p + 1) (by omega), Option.bind_some]
      by_cases h3 : nb L (p + 1) = m
      · rw [if_neg (not_not_intro (c1.mpr h3)), if_pos ⟨by omega, h2, h3⟩]
        rfl
      · rw [if_pos (fun x => h3 (c1.mp x)), if_neg (fun x => h3 x.2.2)]
        rfl
    · rw [if_pos (fun x => h2 (c0.mp x)), if_neg (fun x => h2 x.2.1)]
      rfl
end
/-- where a segment ends -/
def s_seg (L : List Int32) (p to : Nat) : Option Nat := if to < p + 4 ∨ ¬ nb L p = 255 then none else if nb2 L (p + 2) < 2 ∨ to < p + 2 + nb2 L (p + 2) then none else some (p + 2 + nb2 L (p + 2))
theorem s_seg_le {L : List Int32} {p to x : Nat} (h : s_seg L p to = some x) : p + 4 ≤ x ∧ x ≤ to ∧ p + 4 ≤ to ∧ nb L p = 255 ∧ x = p + 2 + nb2 L (p + 2) := by
  unfold s_seg at h
  by_cases h1 : to < p + 4 ∨ ¬ nb L p = 255
  · rw [if_pos h1] at h
    cases h
  · rw [if_neg h1] at h
    by_cases h2 : nb2 L (p + 2) < 2 ∨ to < p + 2 + nb2 L (p + 2)
    · rw [if_pos h2] at h
      cases h
    · rw [if_neg h2] at h
      injection h with h
      have h3 : nb L p = 255 := Decidable.byContradiction fun hh => h1 (Or.inr hh)
      refine ⟨by omega, by omega, by omega, h3, h.symm⟩
/-- what only the head reader and its settings change -/
def qG (w w' : PW) : Prop := w'.1.length = w.1.length ∧ w'.2 = w.2 ∧ ∀ x, (x < 16 ∨ (22 ≤ x ∧ x ≠ 27)) → w'.1[x]? = w.1[x]?
theorem qG.rf {w : PW} : qG w w := ⟨rfl, rfl, fun _ _ => rfl⟩
theorem qG.tr {w w' w'' : PW} (h : qG w w') (k : qG w' w'') : qG w w'' := ⟨k.1.trans h.1, k.2.1.trans h.2.1, fun x hx => (k.2.2 x hx).trans (h.2.2 x hx)⟩
theorem qI.g {w w' : PW} (h : qI 16 22 w w') : qG w w' := ⟨h.1, h.2.1, fun x hx => h.2.2 x (by omega)⟩
theorem qE.g {w w' : PW} (h : qE 27 w w') : qG w w' := ⟨h.1, h.2.2, fun x hx => h.2.1 x (by omega)⟩
/-- what only head reader, settings read and part reader change -/
def qK (w w' : PW) : Prop := w'.1.length = w.1.length ∧ w'.2 = w.2 ∧ ∀ x, (x < 16 ∨ (22 ≤ x ∧ x < 27) ∨ 37 ≤ x) → w'.1[x]? = w.1[x]?
theorem qK.rf {w : PW} : qK w w := ⟨rfl, rfl, fun _ _ => rfl⟩
theorem qK.tr {w w' w'' : PW} (h : qK w w') (k : qK w' w'') : qK w w'' := ⟨k.1.trans h.1, k.2.1.trans h.2.1, fun x hx => (k.2.2 x hx).trans (h.2.2 x hx)⟩
theorem qG.k {w w' : PW} (h : qG w w') : qK w w' := ⟨h.1, h.2.1, fun x hx => h.2.2 x (by omega)⟩
theorem qE.k {w w' : PW} {a : Nat} (h : qE a w w') (ha : 27 ≤ a) (hb : a < 37) : qK w w' := ⟨h.1, h.2.2, fun x hx => h.2.1 x (by omega)⟩
section
variable {w0 w : PW} {rt nt : Nat} {L : List Int32} {ft : Nat → Int32} {he : Int32} {z : Nat → Int32} {g : Nat → Nat → Int32}
theorem qH_isCode (h27 : w.1[27]? = some (.inr (3, [.ref 14, .ref 16, .int he]))) (hb : qB w 14 rt 20000 nt L ft) (p to m : Nat) (hm : m ≤ 255) (hp : p ≤ to) (hto : to ≤ L.length) : fHeadReader_isCode 27 (Int32.ofNat p) (Int32.ofNat to) (Int32.ofNat m) w = some (.inl (some (.int (if p + 2 ≤ to ∧ nb L p = 255 ∧ nb L (p + 1) = m then 1 else 0))), w) := by
  have hl : L.length ≤ 20000 := hb.2.2.2.1
  have n0 := nb_le hb.by p
  have n1 := nb_le hb.by (p + 1)
  have c2 : Int32.ofNat (to - p) < 2 ↔ to - p < 2 := q_lt (n := 2) (by omega) (by omega)
  have c0 : Int32.ofNat (nb L p) = 255 ↔ nb L p = 255 := q_of32 (y := 255) (by omega) (by omega)
  have c1 : Int32.ofNat (nb L (p + 1)) = Int32.ofNat m ↔ nb L (p + 1) = m := q_of32 (by omega) (by omega)
  unfold fHeadReader_isCode
  rw [q_subn hp (by omega)]
  by_cases h1 : to - p < 2
  · rw [if_pos (c2.mpr h1), if_neg (by omega)]
    rfl
  · rw [if_neg (fun x => h1 (c2.mp x)), q_getR (k := 0) h27 rfl, Option.bind_some, q_obj hb.o, Option.bind_some, hb.gn p (by omega), q_call, q_kI]
    by_cases h2 : nb L p = 255
    · rw [if_neg (not_not_intro (c0.mpr h2)), q_getR (k := 0) h27 rfl, Option.bind_some, q_obj hb.o, Option.bind_some, show Int32.ofNat p + 1 = Int32.ofNat (p + 1) from (Int32.ofNat_add p 1).symm, hb.gn (p + 1) (by omega), q_call, q_kI]
      by_cases h3 : nb L (p + 1) = m
      · rw [if_neg (not_not_intro (c1.mpr h3)), if_pos ⟨by omega, h2, h3⟩]
        rfl
      · rw [if_pos (fun x => h3 (c1.mp x)), if_neg (fun x => h3 x.2.2)]
        rfl
    · rw [if_pos (fun x => h2 (c0.mp x)), if_neg (fun x => h2 x.2.1)]
      rfl
theorem qH_seg (h27 : w.1[27]? = some (.inr (3, [.ref 14, .ref 16, .int he]))) (hb : qB w 14 rt 20000 nt L ft) (p to : Nat) (hp : p ≤ to) (hto : to ≤ L.length) : fHeadReader_segmentEnd 27 (Int32.ofNat p) (Int32.ofNat to) w = some (.inl (some (.int (oN (s_seg L p to)))), w) := by
  have hl : L.length ≤ 20000 := hb.2.2.2.1
  have n0 := nb_le hb.by p
  have n2 := nb2_lt hb.by (p + 2)
  have c4 : Int32.ofNat (to - p) < 4 ↔ to - p < 4 := q_lt (n := 4) (by omega) (by omega)
  have c0 : Int32.ofNat (nb L p) = 255 ↔ nb L p = 255 := q_of32 (y := 255) (by omega) (by omega)
  have c2 : Int32.ofNat (nb2 L (p + 2)) < 2 ↔ nb2 L (p + 2) < 2 := q_lt (n := 2) (by omega) (by omega)
  unfold fHeadReader_segmentEnd s_seg
  rw [q_subn hp (by omega)]
  by_cases h1 : to - p < 4
  · rw [if_pos (c4.mpr h1), if_pos (Or.inl (by omega))]
    rfl
  · rw [if_neg (fun x => h1 (c4.mp x)), q_getR (k := 0) h27 rfl, Option.bind_some, q_obj hb.o, Option.bind_some, hb.gn p (by omega), q_call, q_kI]
    by_cases h2 : nb L p = 255
    · have h3 : ¬ (to < p + 4 ∨ ¬ nb L p = 255) := by omega
      rw [if_pos (c0.mpr h2), if_neg h3, q_getR (k := 0) h27 rfl, Option.bind_some, q_obj hb.o, Option.bind_some, show Int32.ofNat p + 2 = Int32.ofNat (p + 2) from (Int32.ofNat_add p 2).symm, hb.num2, q_call, q_kJ, q_num2 hb.by _ (by omega), q_32n, q_let, show Int32.ofNat (to - p) - 2 = Int32.ofNat (to - p - 2) from q_subn (a := 2) (by omega) (by omega)]
      have cl : Int32.ofNat (to - p - 2) < Int32.ofNat (nb2 L (p + 2)) ↔ to - p - 2 < nb2 L (p + 2) := q_lt (by omega) (by omega)
      by_cases h4 : nb2 L (p + 2) < 2
      · rw [if_pos (c2.mpr h4), if_pos (Or.inl h4)]
        rfl
      · rw [if_neg (fun x => h4 (c2.mp x))]
        by_cases h5 : to < p + 2 + nb2 L (p + 2)
        · rw [if_pos (cl.mpr (by omega)), if_pos (Or.inr h5)]
          rfl
        · rw [if_neg (fun x => h5 (by have := cl.mp x; omega)), if_neg (show ¬ (nb2 L (p + 2) < 2 ∨ to < p + 2 + nb2 L (p + 2)) by omega), show Int32.ofNat (p + 2) + Int32.ofNat (nb2 L (p + 2)) = Int32.ofNat (p + 2 + nb2 L (p + 2)) from (Int32.ofNat_add _ _).symm]
          rfl
    · rw [if_neg (fun x => h2 (c0.mp x)), if_pos (Or.inr h2)]
      rfl
theorem qM.behind (h : qM w z g) (hy : qY g 54 L) (hL : qby L) (hl : L.length ≤ 20000) (p to : Nat) (hp : p ≤ to) (hto : to ≤ L.length) : fD_behind 37 (Int32.ofNat p) (Int32.ofNat to) w = some (.inl (some (.int (oN (s_seg L p to)))), w) := by
  have n0 := nb_le hL p
  have n2 := nb2_lt hL (p + 2)
  have c4 : Int32.ofNat (to - p) < 4 ↔ to - p < 4 := q_lt (n := 4) (by omega) (by omega)
  have c0 : Int32.ofNat (nb L p) = 255 ↔ nb L p = 255 := q_of32 (y := 255) (by omega) (by omega)
  have c2 : Int32.ofNat (nb2 L (p + 2)) < 2 ↔ nb2 L (p + 2) < 2 := q_lt (n := 2) (by omega) (by omega)
  unfold fD_behind s_seg
  rw [q_subn hp (by omega)]
  by_cases h1 : to - p < 4
  · rw [if_pos (c4.mpr h1), if_pos (Or.inl (by omega))]
    rfl
  · rw [if_neg (fun x => h1 (c4.mp x)), h.R 23 54 rfl, Option.bind_some, h.had hy hL hl p (by omega), Option.bind_some]
    by_cases h2 : nb L p = 255
    · have h3 : ¬ (to < p + 4 ∨ ¬ nb L p = 255) := by omega
      rw [if_pos (c0.mpr h2), if_neg h3, h.obj, Option.bind_some, show Int32.ofNat p + 2 = Int32.ofNat (p + 2) from (Int32.ofNat_add p 2).symm, h.two hy hL hl (p + 2) (by omega), q_call, q_kI, show Int32.ofNat (p + 2) + Int32.ofNat (nb2 L (p + 2)) = Int32.ofNat (p + 2 + nb2 L (p + 2)) from (Int32.ofNat_add _ _).symm]
      have cl : Int32.ofNat (p + 2 + nb2 L (p + 2)) ≤ Int32.ofNat to ↔ p + 2 + nb2 L (p + 2) ≤ to := q_of_le (by omega) (by omega)
      by_cases h4 : nb2 L (p + 2) < 2
      · rw [if_pos (c2.mpr h4), if_pos (Or.inl h4)]
        rfl
      · rw [if_neg (fun x => h4 (c2.mp x))]
        by_cases h5 : to < p + 2 + nb2 L (p + 2)
        · rw [if_neg (fun x => by have := cl.mp x; omega), if_pos (Or.inr h5)]
          rfl
        · rw [if_pos (cl.mpr (by omega)), if_neg (show ¬ (nb2 L (p + 2) < 2 ∨ to < p + 2 + nb2 L (p + 2)) by omega)]
          rfl
    · rw [if_neg (fun x => h2 (c0.mp x)), if_pos (Or.inr h2)]
      rfl
end
theorem q_wn {k lo hi : Nat} (v : Nat) (hk : k < 11) (h0 : pz_tab 0 k = Int32.ofNat lo) (h1 : pz_tab 1 k = Int32.ofNat hi) (hl : lo < 2147483648) (hh : hi < 2147483648) (hv : v < 9000000000000000000) : q_within (Int32.ofNat k) (Int64.ofNat v) = if lo ≤ v ∧ v ≤ hi then 1 else 0 := by
  unfold q_within
  rw [if_neg (by rw [q_lti, q_ofi (by omega)]; show ¬ (k : Int) < 0; omega), if_neg (fun x => by have := (q_of_le (m := 11) (n := k) (by omega) (by omega)).mp x; omega), q_tno (by omega), h0, h1, q_64n lo hl, q_64n hi hh]
  have c0 := q_c64l (x := v) (y := lo) hv (by omega)
  have c1 := q_c64g (x := v) (y := hi) hv (by omega)
  by_cases a : v < lo
  · rw [if_pos (c0.mpr a), if_neg (by omega)]
  · rw [if_neg (fun x => a (c0.mp x))]
    by_cases b : hi < v
    · rw [if_pos (c1.mpr b), if_neg (by omega)]
    · rw [if_neg (fun x => b (c1.mp x)), if_pos (by omega)]
theorem q_wi {k lo hi : Nat} (v : Nat) (hk : k < 11) (h0 : pz_tab 0 k = Int32.ofNat lo) (h1 : pz_tab 1 k = Int32.ofNat hi) (hl : lo < 2147483648) (hh : hi < 2147483648) (hv : v < 2147483648) : q_within (Int32.ofNat k) (Int32.toInt64 (Int32.ofNat v)) = if lo ≤ v ∧ v ≤ hi then 1 else 0 := by
  rw [q_64n v hv]
  exact q_wn v hk h0 h1 hl hh (by omega)
/-- a style's bytes are right -/
def s_sty (L : List Int32) (p : Nat) : Prop := nb L p = 0 ∧ nb L (p + 3) = nb L (p + 2) ∧ nb L (p + 4) = 0 ∧ nb L (p + 1) ≤ 5 ∧ nb L (p + 2) ≤ 4 ∧ nb L (p + 5) ≤ 1
def s_sta (L : List Int32) (p : Nat) : Prop := nb L (p + 4) = 0 ∧ nb L (p + 5) ≤ 4 ∧ 1 ≤ nb2 L (p + 6) ∧ nb2 L (p + 6) ≤ 1000
def s_stp (L : List Int32) (p : Nat) : Prop := nb L p % 32 = 1 ∧ nb2 L (p + 1) % 2048 = 0
/-- the head reader at w -/
def qHR (w : PW) (rt nt : Nat) (L : List Int32) (ft : Nat → Int32) (he tw th : Int32) (sz dp nm sy sp : Nat → Int32) : Prop := w.1[27]? = some (.inr (3, [.ref 14, .ref 16, .int he])) ∧ qB w 14 rt 20000 nt L ft ∧ (rt = 15 ∨ 67 ≤ rt) ∧ qS w 16 tw th sz dp nm sy sp
section
variable {w : PW} {rt nt : Nat} {L : List Int32} {ft : Nat → Int32} {he tw th : Int32} {sz dp nm sy sp : Nat → Int32}
theorem qHR.hold (h : qHR w rt nt L ft he tw th sz dp nm sy sp) (sl what v : Int32) (h0 : 0 ≤ sl) (h1 : sl < 125) (h2 : 4 ≤ what) (h3 : what ≤ 10) : ∃ w' nm', fSettings_hold 16 sl what v w = some (.inl none, w') ∧ qHR w' rt nt L ft he tw th sz dp nm' (if 9 ≤ what then sy else upd sy sl.toNatClampNeg 1) (if 9 ≤ what then upd sp sl.toNatClampNeg 1 else sp) ∧ qG w w' := by
  obtain ⟨a1, a2, a3, a4⟩ := h
  obtain ⟨w1, g1, q1, F1⟩ := a4.hold sl what v h0 h1 h2 h3
  exact ⟨w1, _, g1, ⟨F1.at a1 (by omega), a2.keep (F1.2.2 14 (by omega)) (F1.2.2 rt (by omega)), a3, q1⟩, F1.g⟩
theorem qHR.gb (h : qHR w rt nt L ft he tw th sz dp nm sy sp) (p i : Nat) (hp : p + i < L.length) : (p_getR w 27 3 0).bind (fun v1 => (p_obj w v1 2).bind fun _ => fBytes_get v1 (Int32.ofNat p + Int32.ofNat i) w) = some (.inl (some (.int (Int32.ofNat (nb L (p + i))))), w) := by
  rw [q_getR (k := 0) h.1 rfl, Option.bind_some, q_obj h.2.1.o, Option.bind_some, show Int32.ofNat p + Int32.ofNat i = Int32.ofNat (p + i) from (Int32.ofNat_add _ _).symm, h.2.1.gn (p + i) hp]
theorem qHR.R0 (h : qHR w rt nt L ft he tw th sz dp nm sy sp) : p_getR w 27 3 0 = some 14 := q_getR (k := 0) h.1 rfl
theorem qHR.R1 (h : qHR w rt nt L ft he tw th sz dp nm sy sp) : p_getR w 27 3 1 = some 16 := q_getR (k := 1) h.1 rfl
theorem qHR.O14 (h : qHR w rt nt L ft he tw th sz dp nm sy sp) : ∃ fs, p_obj w 14 2 = some fs := ⟨_, q_obj h.2.1.o⟩
theorem qHR.O16 (h : qHR w rt nt L ft he tw th sz dp nm sy sp) : ∃ fs, p_obj w 16 7 = some fs := h.2.2.2.obj
theorem q_updd (f : Nat → Int32) (k : Nat) (v : Int32) : upd (upd f k v) k v = upd f k v := q_upd2 f k v v
theorem qHR.style (h : qHR w rt nt L ft he tw th sz dp nm sy sp) (p : Nat) (sl : Int32) (h0 : 0 ≤ sl) (h1 : sl < 125) (hp : p + 6 ≤ L.length) : (s_sty L p → ∃ w' nm', fHeadReader_keepStyle 27 (Int32.ofNat p) sl w = some (.inl (some (.int 1)), w') ∧ qHR w' rt nt L ft he tw th sz dp nm' (upd sy sl.toNatClampNeg 1) sp ∧ qG w w') ∧ (¬ s_sty L p → fHeadReader_keepStyle 27 (Int32.ofNat p) sl w = some (.inl (some (.int 0)), w)) := by
  have hb := h.2.1
  have hl : L.length ≤ 20000 := hb.2.2.2.1
  obtain ⟨f14, o14⟩ := h.O14
  obtain ⟨f16, o16⟩ := h.O16
  have e : ∀ i : Nat, Int32.ofNat p + Int32.ofNat i = Int32.ofNat (p + i) := fun i => (Int32.ofNat_add _ _).symm
  have n := nb_le hb.by
  have n0 := n p
  have n1 := n (p + 1)
  have n2 := n (p + 2)
  have n3 := n (p + 3)
  have n4 := n (p + 4)
  have n5 := n (p + 5)
  have c0 : Int32.ofNat (nb L p) = 0 ↔ nb L p = 0 := q_of32 (y := 0) (by omega) (by omega)
  have c4 : Int32.ofNat (nb L (p + 4)) = 0 ↔ nb L (p + 4) = 0 := q_of32 (y := 0) (by omega) (by omega)
  have e2 : ∀ i : Nat, Int32.ofNat (nb L i) + 2 = Int32.ofNat (nb L i + 2) := fun i => (Int32.ofNat_add _ 2).symm
  have c3 : Int32.ofNat (nb L (p + 3) + 2) = Int32.ofNat (nb L (p + 2) + 2) ↔ nb L (p + 3) = nb L (p + 2) := by
    rw [q_of32 (by omega) (by omega)]
    omega
  unfold fHeadReader_keepStyle
  rw [h.R0, Option.bind_some, o14, Option.bind_some, show Int32.ofNat p + 1 = _ from e 1, hb.gn (p + 1) (by omega), q_call, q_kI, h.R0, Option.bind_some, o14, Option.bind_some, show Int32.ofNat p + 2 = _ from e 2, hb.gn (p + 2) (by omega), q_call, q_kI, q_let, h.R0, Option.bind_some, o14, Option.bind_some, show Int32.ofNat p + 5 = _ from e 5, hb.gn (p + 5) (by omega), q_call, q_kI, h.R0, Option.bind_some, o14, Option.bind_some, hb.gn p (by omega), q_call, q_kI, h.R0, e2 (p + 2)]
  have z83 : fHeadReader_keepStyle_83 27 sl (Int32.ofNat (nb L (p + 1))) (Int32.ofNat (nb L (p + 2) + 2)) (Int32.ofNat (nb L (p + 5))) 0 w = some (.inl (some (.int 0)), w) := by
    unfold fHeadReader_keepStyle_83
    rw [if_pos rfl]
    rfl
  have w6 : q_within 6 (Int32.toInt64 (Int32.ofNat (nb L (p + 1)))) = if 0 ≤ nb L (p + 1) ∧ nb L (p + 1) ≤ 5 then 1 else 0 := q_wi (k := 6) _ (by omega) (by decide) (by decide) (by omega) (by omega) (by omega)
  have w7 : q_within 7 (Int32.toInt64 (Int32.ofNat (nb L (p + 2) + 2))) = if 2 ≤ nb L (p + 2) + 2 ∧ nb L (p + 2) + 2 ≤ 6 then 1 else 0 := q_wi (k := 7) _ (by omega) (by decide) (by decide) (by omega) (by omega) (by omega)
  have w8 : q_within 8 (Int32.toInt64 (Int32.ofNat (nb L (p + 5)))) = if 0 ≤ nb L (p + 5) ∧ nb L (p + 5) ≤ 1 then 1 else 0 := q_wi (k := 8) _ (by omega) (by decide) (by decide) (by omega) (by omega) (by omega)
  unfold s_sty
  by_cases a0 : nb L p = 0
  · rw [if_neg (not_not_intro (c0.mpr a0)), Option.bind_some, o14, Option.bind_some, show Int32.ofNat p + 3 = _ from e 3, hb.gn (p + 3) (by omega), q_call, q_kI, e2 (p + 3)]
    by_cases a3 : nb L (p + 3) = nb L (p + 2)
    · rw [if_neg (not_not_intro (c3.mpr a3)), h.R0, Option.bind_some, o14, Option.bind_some, show Int32.ofNat p + 4 = _ from e 4, hb.gn (p + 4) (by omega), q_call, q_kI]
      by_cases a4 : nb L (p + 4) = 0
      · rw [if_neg (not_not_intro (c4.mpr a4))]
        unfold fHeadReader_keepStyle_83
        rw [if_neg (by decide), q_isWithin, q_call, q_kI]
        by_cases a1 : nb L (p + 1) ≤ 5
        · rw [w6.trans (if_pos ⟨by omega, a1⟩), if_neg (by decide), q_isWithin, q_call, q_kI]
          by_cases a2 : nb L (p + 2) ≤ 4
          · rw [w7.trans (if_pos ⟨by omega, by omega⟩), if_neg (by decide), q_isWithin, q_call, q_kI]
            by_cases a5 : nb L (p + 5) ≤ 1
            · rw [w8.trans (if_pos ⟨by omega, a5⟩), if_pos (by decide)]
              refine ⟨fun _ => ?_, fun x => absurd ⟨a0, a3, a4, a1, a2, a5⟩ x⟩
              obtain ⟨w1, m1, g1, q1, F1⟩ := h.hold sl 6 (Int32.ofNat (nb L (p + 1))) h0 h1 (by decide) (by decide)
              obtain ⟨f1, p1⟩ := q1.O16
              rw [h.R1, Option.bind_some, o16, Option.bind_some, g1, q_call, q_kV, q1.R1, Option.bind_some, p1, Option.bind_some]
              obtain ⟨w2, m2, g2, q2, F2⟩ := q1.hold sl 7 (Int32.ofNat (nb L (p + 2) + 2)) h0 h1 (by decide) (by decide)
              obtain ⟨f2, p2⟩ := q2.O16
              rw [g2, q_call, q_kV, q2.R1, Option.bind_some, p2, Option.bind_some]
              obtain ⟨w3, m3, g3, q3, F3⟩ := q2.hold sl 8 (Int32.ofNat (nb L (p + 5))) h0 h1 (by decide) (by decide)
              rw [g3, q_call, q_kV]
              refine ⟨w3, m3, rfl, ?_, (F1.tr F2).tr F3⟩
              rw [if_neg (by decide), if_neg (by decide), if_neg (by decide), if_neg (by decide), if_neg (by decide), if_neg (by decide), q_updd, q_updd] at q3
              exact q3
            · rw [w8.trans (if_neg (fun x => a5 x.2)), if_neg (not_not_intro rfl)]
              exact ⟨fun x => absurd x.2.2.2.2.2 a5, fun _ => rfl⟩
          · rw [w7.trans (if_neg (fun x => a2 (by omega))), if_pos rfl]
            exact ⟨fun x => absurd x.2.2.2.2.1 a2, fun _ => rfl⟩
        · rw [w6.trans (if_neg (fun x => a1 x.2)), if_pos rfl]
          exact ⟨fun x => absurd x.2.2.2.1 a1, fun _ => rfl⟩
      · rw [if_pos (fun x => a4 (c4.mp x)), z83]
        exact ⟨fun x => absurd x.2.2.1 a4, fun _ => rfl⟩
    · rw [if_pos (fun x => a3 (c3.mp x)), z83]
      exact ⟨fun x => absurd x.2.1 a3, fun _ => rfl⟩
  · rw [if_pos (fun x => a0 (c0.mp x)), z83]
    exact ⟨fun x => absurd x.1 a0, fun _ => rfl⟩
end
theorem q_rem32 : ∀ v : Nat, v ≤ 255 → p_irem (Int32.ofNat v) 32 = some (Int32.ofNat (v % 32)) := by decide +kernel
theorem q_div32 : ∀ v : Nat, v ≤ 255 → p_idiv (Int32.ofNat v) 32 = some (Int32.ofNat (v / 32)) := by decide +kernel
section
variable {w : PW} {rt nt : Nat} {L : List Int32} {ft : Nat → Int32} {he tw th : Int32} {sz dp nm sy sp : Nat → Int32}
theorem qHR.sta (h : qHR w rt nt L ft he tw th sz dp nm sy sp) (p : Nat) (t : Int32) (hp : p + 8 ≤ L.length) : (s_sta L p → ∃ w' nm', fHeadReader_keepStyleForAll 27 (Int32.ofNat p) t w = some (.inl (some (.int 1)), w') ∧ qHR w' rt nt L ft he tw th sz dp nm' (upd sy (q_slot t (-1)).toNatClampNeg 1) sp ∧ qG w w') ∧ (¬ s_sta L p → fHeadReader_keepStyleForAll 27 (Int32.ofNat p) t w = some (.inl (some (.int 0)), w)) := by
  have hb := h.2.1
  have hl : L.length ≤ 20000 := hb.2.2.2.1
  obtain ⟨f14, o14⟩ := h.O14
  obtain ⟨f16, o16⟩ := h.O16
  have e : ∀ i : Nat, Int32.ofNat p + Int32.ofNat i = Int32.ofNat (p + i) := fun i => (Int32.ofNat_add _ _).symm
  have n4 := nb_le hb.by (p + 4)
  have n5 := nb_le hb.by (p + 5)
  have n6 := nb2_lt hb.by (p + 6)
  have c4 : Int32.ofNat (nb L (p + 4)) = 0 ↔ nb L (p + 4) = 0 := q_of32 (y := 0) (by omega) (by omega)
  have w4 : q_within 4 (Int32.toInt64 (Int32.ofNat (nb L (p + 5)))) = if 0 ≤ nb L (p + 5) ∧ nb L (p + 5) ≤ 4 then 1 else 0 := q_wi (k := 4) _ (by omega) (by decide) (by decide) (by omega) (by omega) (by omega)
  have w5 : q_within 5 (Int32.toInt64 (Int32.ofNat (nb2 L (p + 6)))) = if 1 ≤ nb2 L (p + 6) ∧ nb2 L (p + 6) ≤ 1000 then 1 else 0 := q_wi (k := 5) _ (by omega) (by decide) (by decide) (by omega) (by omega) (by omega)
  have hs := q_slot_b t (-1)
  unfold fHeadReader_keepStyleForAll s_sta
  rw [h.R0, Option.bind_some, o14, Option.bind_some, show Int32.ofNat p + 5 = _ from e 5, hb.gn (p + 5) (by omega), q_call, q_kI, h.R0, Option.bind_some, o14, Option.bind_some, show Int32.ofNat p + 6 = _ from e 6, hb.num2, q_call, q_kJ, q_num2 hb.by _ (by omega), q_32n, q_let, h.R0, Option.bind_some, o14, Option.bind_some, show Int32.ofNat p + 4 = _ from e 4, hb.gn (p + 4) (by omega), q_call, q_kI]
  by_cases a4 : nb L (p + 4) = 0
  · rw [if_neg (not_not_intro (c4.mpr a4)), q_isWithin, q_call, q_kI]
    by_cases a5 : nb L (p + 5) ≤ 4
    · rw [w4.trans (if_pos ⟨by omega, a5⟩), if_neg (by decide), q_isWithin, q_call, q_kI]
      by_cases a6 : 1 ≤ nb2 L (p + 6) ∧ nb2 L (p + 6) ≤ 1000
      · rw [w5.trans (if_pos a6), if_pos (by decide), h.R1, Option.bind_some, q_slotOf, q_call, q_kI, o16, Option.bind_some]
        refine ⟨fun _ => ?_, fun x => absurd ⟨a4, a5, a6⟩ x⟩
        obtain ⟨w1, m1, g1, q1, F1⟩ := h.hold (q_slot t (-1)) 4 (Int32.ofNat (nb L (p + 5))) hs.1 hs.2 (by decide) (by decide)
        obtain ⟨f1, p1⟩ := q1.O16
        rw [g1, q_call, q_kV, q1.R1, Option.bind_some, q_slotOf, q_call, q_kI, p1, Option.bind_some]
        obtain ⟨w2, m2, g2, q2, F2⟩ := q1.hold (q_slot t (-1)) 5 (Int32.ofNat (nb2 L (p + 6))) hs.1 hs.2 (by decide) (by decide)
        rw [g2, q_call, q_kV]
        refine ⟨w2, m2, rfl, ?_, F1.tr F2⟩
        rw [if_neg (by decide), if_neg (by decide), if_neg (by decide), if_neg (by decide), q_updd] at q2
        exact q2
      · rw [w5.trans (if_neg a6), if_neg (not_not_intro rfl)]
        exact ⟨fun x => absurd x.2.2 a6, fun _ => rfl⟩
    · rw [w4.trans (if_neg (fun x => a5 x.2)), if_pos rfl]
      exact ⟨fun x => absurd x.2.1 a5, fun _ => rfl⟩
  · rw [if_pos (fun x => a4 (c4.mp x))]
    exact ⟨fun x => absurd x.1 a4, fun _ => rfl⟩
theorem q_divn {v d : Nat} (hv : v < 2147483648) (hd : 1 ≤ d) (hd2 : d < 2147483648) : Int32.ofNat v / Int32.ofNat d = Int32.ofNat (v / d) := by
  have h1 : v / d ≤ v := Nat.div_le_self v d
  apply q_i32
  rw [Int32.toInt_div, q_ofi hv, q_ofi hd2, q_ofi (by omega), Int.tdiv_eq_ediv_of_nonneg (by omega)]
  have h2 : (v : Int) / (d : Int) = ((v / d : Nat) : Int) := rfl
  rw [h2]
  refine Int.bmod_eq_of_le ?_ ?_
  · have : (0 : Int) ≤ ((v / d : Nat) : Int) := Int.natCast_nonneg _
    omega
  · omega
theorem q_remn {v d : Nat} (hv : v < 65536) (hd : d = 2048) : p_irem (Int32.ofNat v) (Int32.ofNat d) = some (Int32.ofNat (v % d)) := by
  subst hd
  have hm := Nat.div_add_mod v 2048
  have hlt := Nat.mod_lt v (show 0 < 2048 by omega)
  unfold p_irem
  rw [if_neg (by decide), q_divn (by omega) (by omega) (by omega), show Int32.ofNat (v / 2048) * Int32.ofNat 2048 = Int32.ofNat (v / 2048 * 2048) from (Int32.ofNat_mul _ _).symm, q_subn (by omega) (by omega)]
  congr 2
  omega
theorem qHR.step (h : qHR w rt nt L ft he tw th sz dp nm sy sp) (p : Nat) (sl : Int32) (h0 : 0 ≤ sl) (h1 : sl < 125) (hp : p + 3 ≤ L.length) : (s_stp L p → ∃ w' nm', fHeadReader_keepStep 27 (Int32.ofNat p) sl w = some (.inl (some (.int 1)), w') ∧ qHR w' rt nt L ft he tw th sz dp nm' sy (upd sp sl.toNatClampNeg 1) ∧ qG w w') ∧ (¬ s_stp L p → fHeadReader_keepStep 27 (Int32.ofNat p) sl w = some (.inl (some (.int 0)), w)) := by
  have hb := h.2.1
  have hl : L.length ≤ 20000 := hb.2.2.2.1
  obtain ⟨f14, o14⟩ := h.O14
  obtain ⟨f16, o16⟩ := h.O16
  have n0 := nb_le hb.by p
  have n1 := nb2_lt hb.by (p + 1)
  have c1 : Int32.ofNat (nb L p % 32) = 1 ↔ nb L p % 32 = 1 := q_of32 (y := 1) (by omega) (by omega)
  have c2 : Int32.ofNat (nb2 L (p + 1) % 2048) = 0 ↔ nb2 L (p + 1) % 2048 = 0 := q_of32 (y := 0) (by omega) (by omega)
  unfold fHeadReader_keepStep s_stp
  rw [h.R0, Option.bind_some, o14, Option.bind_some, hb.gn p (by omega), q_call, q_kI, h.R0, Option.bind_some, o14, Option.bind_some, show Int32.ofNat p + 1 = Int32.ofNat (p + 1) from (Int32.ofNat_add p 1).symm, hb.num2, q_call, q_kJ, q_num2 hb.by _ (by omega), q_32n, q_let, q_rem32 _ n0, Option.bind_some]
  by_cases a1 : nb L p % 32 = 1
  · rw [if_neg (not_not_intro (c1.mpr a1)), show p_irem (Int32.ofNat (nb2 L (p + 1))) 2048 = _ from q_remn (d := 2048) n1 rfl, Option.bind_some]
    by_cases a2 : nb2 L (p + 1) % 2048 = 0
    · rw [if_pos (c2.mpr a2), h.R1, Option.bind_some, q_div32 _ n0, Option.bind_some, o16, Option.bind_some]
      refine ⟨fun _ => ?_, fun x => absurd ⟨a1, a2⟩ x⟩
      obtain ⟨w1, m1, g1, q1, F1⟩ := h.hold sl 10 (Int32.ofNat (nb L p / 32)) h0 h1 (by decide) (by decide)
      obtain ⟨f1, p1⟩ := q1.O16
      rw [g1, q_call, q_kV, q1.R1, Option.bind_some]
      have hd : ∃ v, p_idiv (Int32.ofNat (nb2 L (p + 1))) 2048 = some v := by
        unfold p_idiv
        exact ⟨_, if_neg (by decide)⟩
      obtain ⟨v, hv⟩ := hd
      rw [hv, Option.bind_some, p1, Option.bind_some]
      obtain ⟨w2, m2, g2, q2, F2⟩ := q1.hold sl 9 v h0 h1 (by decide) (by decide)
      rw [g2, q_call, q_kV]
      refine ⟨w2, m2, rfl, ?_, F1.tr F2⟩
      rw [if_pos (by decide), if_pos (by decide), if_pos (by decide), if_pos (by decide), q_updd] at q2
      exact q2
    · rw [if_neg (fun x => a2 (c2.mp x))]
      exact ⟨fun x => absurd x.2 a2, fun _ => rfl⟩
  · rw [if_pos (fun x => a1 (c1.mp x))]
    exact ⟨fun x => absurd x.1 a1, fun _ => rfl⟩
end
/-- a segment is as it must be -/
def s_sgm (L : List Int32) (many p x : Nat) : Prop := (nb L (p + 1) = 82 → x = p + 14 ∧ s_sta L p ∧ s_sty L (p + 8)) ∧ (nb L (p + 1) = 83 → x = p + 11 ∧ nb L (p + 4) < many ∧ s_sty L (p + 5)) ∧ (nb L (p + 1) = 92 → x = p + 7 ∧ s_stp L (p + 4)) ∧ (nb L (p + 1) = 93 → x = p + 8 ∧ nb L (p + 4) < many ∧ s_stp L (p + 5))
theorem q_slot00 : (q_slot (-1) (-1)).toNatClampNeg = 0 := by decide
theorem q_slot0c (c : Nat) (h : c < 4) : ¬ (q_slot (-1) (Int32.ofNat c)).toNatClampNeg = 0 := by
  have : ∀ c : Nat, c < 4 → ¬ (q_slot (-1) (Int32.ofNat c)).toNatClampNeg = 0 := by decide
  exact this c h
section
variable {w : PW} {rt nt : Nat} {L : List Int32} {ft : Nat → Int32} {he tw th : Int32} {sz dp nm sy sp : Nat → Int32}
theorem qHR.O27 (h : qHR w rt nt L ft he tw th sz dp nm sy sp) : ∃ fs, p_obj w 27 3 = some fs := ⟨_, q_obj h.1⟩
theorem qHR.segment (h : qHR w rt nt L ft he tw th sz dp nm sy sp) (p x : Nat) (t : Int32) (many : Nat) (hm : sz 2 = Int32.ofNat many) (hm4 : many ≤ 4) (hp : p + 4 ≤ x) (hx : x ≤ L.length) : ∃ w' nm' sy' sp' v, fHeadReader_keepSegment 27 (Int32.ofNat p) (Int32.ofNat x) t w = some (.inl (some (.int v)), w') ∧ qHR w' rt nt L ft he tw th sz dp nm' sy' sp' ∧ qG w w' ∧ (v = 0 ↔ ¬ s_sgm L many p x) ∧ (v = 0 ∨ v = 1) ∧ (v = 1 → t = -1 → (sy' 0 = 0 ↔ sy 0 = 0 ∧ ¬ nb L (p + 1) = 82) ∧ (sp' 0 = 0 ↔ sp 0 = 0 ∧ ¬ nb L (p + 1) = 92)) := by
  have hb := h.2.1
  have hl : L.length ≤ 20000 := hb.2.2.2.1
  obtain ⟨f14, o14⟩ := h.O14
  obtain ⟨f16, o16⟩ := h.O16
  obtain ⟨f27, o27⟩ := h.O27
  have e : ∀ i : Nat, Int32.ofNat p + Int32.ofNat i = Int32.ofNat (p + i) := fun i => (Int32.ofNat_add _ _).symm
  have n1 := nb_le hb.by (p + 1)
  have n4 := nb_le hb.by (p + 4)
  have k82 : Int32.ofNat (nb L (p + 1)) = 82 ↔ nb L (p + 1) = 82 := q_of32 (y := 82) (by omega) (by omega)
  have k83 : Int32.ofNat (nb L (p + 1)) = 83 ↔ nb L (p + 1) = 83 := q_of32 (y := 83) (by omega) (by omega)
  have k92 : Int32.ofNat (nb L (p + 1)) = 92 ↔ nb L (p + 1) = 92 := q_of32 (y := 92) (by omega) (by omega)
  have k93 : Int32.ofNat (nb L (p + 1)) = 93 ↔ nb L (p + 1) = 93 := q_of32 (y := 93) (by omega) (by omega)
  have ex : Int32.ofNat x - Int32.ofNat p = Int32.ofNat (x - p) := q_subn (by omega) (by omega)
  have c14 : Int32.ofNat (x - p) = 14 ↔ x - p = 14 := q_of32 (y := 14) (by omega) (by omega)
  have c11 : Int32.ofNat (x - p) = 11 ↔ x - p = 11 := q_of32 (y := 11) (by omega) (by omega)
  have c7 : Int32.ofNat (x - p) = 7 ↔ x - p = 7 := q_of32 (y := 7) (by omega) (by omega)
  have c8 : Int32.ofNat (x - p) = 8 ↔ x - p = 8 := q_of32 (y := 8) (by omega) (by omega)
  have isc : ∀ (b : Nat), b ≤ 255 → fSettings_isComponent 16 (Int32.ofNat b) w = some (.inl (some (.int (if b < many then 1 else 0))), w) := fun b hb' => by
    rw [h.2.2.2.isComponent, if_neg (by rw [q_lti, q_ofi (by omega)]; show ¬ (b : Int) < 0; omega), hm]
    by_cases hq : b < many
    · rw [if_neg (fun y => by have := (q_of_le (m := many) (n := b) (by omega) (by omega)).mp y; omega), if_pos hq]
    · rw [if_pos ((q_of_le (m := many) (n := b) (by omega) (by omega)).mpr (by omega)), if_neg hq]
  have d01 : ¬ (0 : Int32) = 1 := by decide
  have d10 : ¬ (1 : Int32) = 0 := by decide
  have bad : ¬ s_sgm L many p x → ∀ (w' : PW) (nm' sy' sp' : Nat → Int32), qHR w' rt nt L ft he tw th sz dp nm' sy' sp' → qG w w' → ∃ w'' nm'' sy'' sp'' v, p_retZ 0 w' = some (.inl (some (.int v)), w'') ∧ qHR w'' rt nt L ft he tw th sz dp nm'' sy'' sp'' ∧ qG w w'' ∧ (v = 0 ↔ ¬ s_sgm L many p x) ∧ (v = 0 ∨ v = 1) ∧ (v = 1 → t = -1 → (sy'' 0 = 0 ↔ sy 0 = 0 ∧ ¬ nb L (p + 1) = 82) ∧ (sp'' 0 = 0 ↔ sp 0 = 0 ∧ ¬ nb L (p + 1) = 92)) := fun hn w' nm' sy' sp' h' g' => ⟨w', nm', sy', sp', 0, rfl, h', g', ⟨fun _ => hn, fun _ => rfl⟩, Or.inl rfl, fun y => absurd y d01⟩
  unfold fHeadReader_keepSegment
  rw [h.R0, Option.bind_some, o14, Option.bind_some, show Int32.ofNat p + 1 = _ from e 1, hb.gn (p + 1) (by omega), q_call, q_kI, ex]
  by_cases a82 : nb L (p + 1) = 82
  · rw [if_pos (k82.mpr a82)]
    by_cases hx14 : x - p = 14
    · rw [if_neg (not_not_intro (c14.mpr hx14)), o27, Option.bind_some]
      obtain ⟨s1, s2⟩ := h.sta p t (by omega)
      by_cases q1 : s_sta L p
      · obtain ⟨w1, m1, g1, h1, F1⟩ := s1 q1
        obtain ⟨f1, p1⟩ := h1.O27
        have hs := q_slot_b t (-1)
        rw [g1, q_call, q_kI, if_neg d10, q_slotOf, q_call, q_kI, p1, Option.bind_some, show Int32.ofNat p + 8 = _ from e 8]
        obtain ⟨s3, s4⟩ := h1.style (p + 8) (q_slot t (-1)) hs.1 hs.2 (by omega)
        by_cases q2 : s_sty L (p + 8)
        · obtain ⟨w2, m2, g2, h2, F2⟩ := s3 q2
          rw [g2, q_call, q_kI, if_neg d10]
          refine ⟨w2, m2, _, _, 1, rfl, h2, F1.tr F2, ⟨fun y => absurd y d10, fun y => absurd ⟨fun _ => ⟨by omega, q1, q2⟩, fun y => absurd y (by omega), fun y => absurd y (by omega), fun y => absurd y (by omega)⟩ y⟩, Or.inr rfl, fun _ ht => ?_⟩
          subst ht
          rw [q_slot00, q_updd]
          refine ⟨⟨fun y => absurd (show (1 : Int32) = 0 from y) d10, fun y => absurd a82 y.2⟩, ⟨fun y => ⟨y, by omega⟩, fun y => y.1⟩⟩
        · rw [s4 q2, q_call, q_kI, if_pos rfl]
          exact bad (fun y => q2 (y.1 a82).2.2) w1 _ _ _ h1 F1
      · rw [s2 q1, q_call, q_kI, if_pos rfl]
        exact bad (fun y => q1 (y.1 a82).2.1) w _ _ _ h qG.rf
    · rw [if_pos (fun y => hx14 (c14.mp y))]
      exact bad (fun y => hx14 (by have := (y.1 a82).1; omega)) w _ _ _ h qG.rf
  · rw [if_neg (fun y => a82 (k82.mp y))]
    by_cases a83 : nb L (p + 1) = 83
    · rw [if_pos (k83.mpr a83)]
      by_cases hx11 : x - p = 11
      · rw [if_neg (not_not_intro (c11.mpr hx11)), h.R1, Option.bind_some, h.R0, Option.bind_some, o14, Option.bind_some, show Int32.ofNat p + 4 = _ from e 4, hb.gn (p + 4) (by omega), q_call, q_kI, o16, Option.bind_some, isc _ n4, q_call, q_kI]
        by_cases q1 : nb L (p + 4) < many
        · rw [if_pos q1, if_neg d10, h.R0, Option.bind_some, o14, Option.bind_some, hb.gn (p + 4) (by omega), q_call, q_kI, q_slotOf, q_call, q_kI, o27, Option.bind_some, show Int32.ofNat p + 5 = _ from e 5]
          have hs := q_slot_b t (Int32.ofNat (nb L (p + 4)))
          obtain ⟨s3, s4⟩ := h.style (p + 5) (q_slot t (Int32.ofNat (nb L (p + 4)))) hs.1 hs.2 (by omega)
          by_cases q2 : s_sty L (p + 5)
          · obtain ⟨w2, m2, g2, h2, F2⟩ := s3 q2
            rw [g2, q_call, q_kI, if_neg d10]
            refine ⟨w2, m2, _, _, 1, rfl, h2, F2, ⟨fun y => absurd y d10, fun y => absurd ⟨fun y => absurd y (by omega), fun _ => ⟨by omega, q1, q2⟩, fun y => absurd y (by omega), fun y => absurd y (by omega)⟩ y⟩, Or.inr rfl, fun _ ht => ?_⟩
            subst ht
            have h0 := q_slot0c (nb L (p + 4)) (by omega)
            refine ⟨?_, ⟨fun y => ⟨y, by omega⟩, fun y => y.1⟩⟩
            unfold upd
            rw [if_neg (fun y => h0 y.symm)]
            exact ⟨fun y => ⟨y, a82⟩, fun y => y.1⟩
          · rw [s4 q2, q_call, q_kI, if_pos rfl]
            exact bad (fun y => q2 (y.2.1 a83).2.2) w _ _ _ h qG.rf
        · rw [if_neg q1, if_pos rfl]
          exact bad (fun y => q1 (y.2.1 a83).2.1) w _ _ _ h qG.rf
      · rw [if_pos (fun y => hx11 (c11.mp y))]
        exact bad (fun y => hx11 (by have := (y.2.1 a83).1; omega)) w _ _ _ h qG.rf
    · rw [if_neg (fun y => a83 (k83.mp y))]
      by_cases a92 : nb L (p + 1) = 92
      · rw [if_pos (k92.mpr a92)]
        by_cases hx7 : x - p = 7
        · rw [if_neg (not_not_intro (c7.mpr hx7)), q_slotOf, q_call, q_kI, o27, Option.bind_some, show Int32.ofNat p + 4 = _ from e 4]
          have hs := q_slot_b t (-1)
          obtain ⟨s3, s4⟩ := h.step (p + 4) (q_slot t (-1)) hs.1 hs.2 (by omega)
          by_cases q2 : s_stp L (p + 4)
          · obtain ⟨w2, m2, g2, h2, F2⟩ := s3 q2
            rw [g2, q_call, q_kI, if_neg d10]
            refine ⟨w2, m2, _, _, 1, rfl, h2, F2, ⟨fun y => absurd y d10, fun y => absurd ⟨fun y => absurd y (by omega), fun y => absurd y (by omega), fun _ => ⟨by omega, q2⟩, fun y => absurd y (by omega)⟩ y⟩, Or.inr rfl, fun _ ht => ?_⟩
            subst ht
            rw [q_slot00]
            exact ⟨⟨fun y => ⟨y, a82⟩, fun y => y.1⟩, ⟨fun y => absurd (show (1 : Int32) = 0 from y) d10, fun y => absurd a92 y.2⟩⟩
          · rw [s4 q2, q_call, q_kI, if_pos rfl]
            exact bad (fun y => q2 (y.2.2.1 a92).2) w _ _ _ h qG.rf
        · rw [if_pos (fun y => hx7 (c7.mp y))]
          exact bad (fun y => hx7 (by have := (y.2.2.1 a92).1; omega)) w _ _ _ h qG.rf
      · rw [if_neg (fun y => a92 (k92.mp y))]
        by_cases a93 : nb L (p + 1) = 93
        · rw [if_pos (k93.mpr a93)]
          by_cases hx8 : x - p = 8
          · rw [if_neg (not_not_intro (c8.mpr hx8)), h.R1, Option.bind_some, h.R0, Option.bind_some, o14, Option.bind_some, show Int32.ofNat p + 4 = _ from e 4, hb.gn (p + 4) (by omega), q_call, q_kI, o16, Option.bind_some, isc _ n4, q_call, q_kI]
            by_cases q1 : nb L (p + 4) < many
            · rw [if_pos q1, if_neg d10, h.R0, Option.bind_some, o14, Option.bind_some, hb.gn (p + 4) (by omega), q_call, q_kI, q_slotOf, q_call, q_kI, o27, Option.bind_some, show Int32.ofNat p + 5 = _ from e 5]
              have hs := q_slot_b t (Int32.ofNat (nb L (p + 4)))
              obtain ⟨s3, s4⟩ := h.step (p + 5) (q_slot t (Int32.ofNat (nb L (p + 4)))) hs.1 hs.2 (by omega)
              by_cases q2 : s_stp L (p + 5)
              · obtain ⟨w2, m2, g2, h2, F2⟩ := s3 q2
                rw [g2, q_call, q_kI, if_neg d10]
                refine ⟨w2, m2, _, _, 1, rfl, h2, F2, ⟨fun y => absurd y d10, fun y => absurd ⟨fun y => absurd y (by omega), fun y => absurd y (by omega), fun y => absurd y (by omega), fun _ => ⟨by omega, q1, q2⟩⟩ y⟩, Or.inr rfl, fun _ ht => ?_⟩
                subst ht
                have h0 := q_slot0c (nb L (p + 4)) (by omega)
                refine ⟨⟨fun y => ⟨y, a82⟩, fun y => y.1⟩, ?_⟩
                unfold upd
                rw [if_neg (fun y => h0 y.symm)]
                exact ⟨fun y => ⟨y, a92⟩, fun y => y.1⟩
              · rw [s4 q2, q_call, q_kI, if_pos rfl]
                exact bad (fun y => q2 (y.2.2.2 a93).2.2) w _ _ _ h qG.rf
            · rw [if_neg q1, if_pos rfl]
              exact bad (fun y => q1 (y.2.2.2 a93).2.1) w _ _ _ h qG.rf
          · rw [if_pos (fun y => hx8 (c8.mp y))]
            exact bad (fun y => hx8 (by have := (y.2.2.2 a93).1; omega)) w _ _ _ h qG.rf
        · rw [if_neg (fun y => a93 (k93.mp y))]
          exact ⟨w, _, _, _, 1, rfl, h, qG.rf, ⟨fun y => absurd y d10, fun y => absurd ⟨fun z => absurd z a82, fun z => absurd z a83, fun z => absurd z a92, fun z => absurd z a93⟩ y⟩, Or.inr rfl, fun _ _ => ⟨⟨fun y => ⟨y, a82⟩, fun y => y.1⟩, ⟨fun y => ⟨y, a92⟩, fun y => y.1⟩⟩⟩
end
