section
variable {w : PW} {T : Nat → Nat} {rd : Int32} {L : List Int32} {U : List (Nat × Nat)} {n4 n6 nt : Nat}
/-- a call of the class that changes nothing: it answers, or throws one of some -/
def jAs (w : PW) (E : List String) (r : PX) : Prop := (∃ v, r = some (.inl (some (.int v)), w)) ∨ ∃ e w', e ∈ E ∧ r = some (.inr e, w') ∧ qT w w'
theorem jAs.t (E : List String) (e : String) (he : e ∈ E) (w : PW) : jAs w E (p_throw e w) := by
  obtain ⟨w', h1, h2⟩ := q_throw e w
  exact Or.inr ⟨e, w', he, h1, h2⟩
theorem qPr.ld {lc cnt : Int32} {pa : Nat → Nat → Int32} (h : qPr w lc cnt pa) (k t : Nat) (i : Int32) (h1 : 29 ≤ k) (h2 : k < 35) (ht : rT k = t) (i0 : 0 ≤ i.toInt) (i1 : i.toInt < 300) : ∃ v, p_ald w k t i = some v := by
  have hl : rL k = 300 := by
    unfold rL
    rw [if_neg (by omega), if_neg (by omega)]
  have hk := h.2 k h1 (by omega)
  rw [ht, hl] at hk
  exact ⟨_, q_ald hk (by rw [q_lei]; exact i0) (by rw [q_lti, q_ofi (by omega)]; exact i1) (by omega)⟩
theorem qPr.numOf {lc cnt : Int32} {pa : Nat → Nat → Int32} (h : qPr w lc cnt pa) (i what : Int32) (i0 : 0 ≤ i.toInt) (i1 : i.toInt < 300) : ∃ v, fPartReader_numberOf 28 i what w = some (.inl (some (.int v)), w) := by
  have l := fun k t h1 h2 ht => h.ld k t i h1 h2 ht i0 i1
  unfold fPartReader_numberOf
  split
  · obtain ⟨v, ev⟩ := l 29 0 (by omega) (by omega) rfl
    rw [q_getR (k := 3) h.1 rfl, Option.bind_some, ev, Option.bind_some]; exact ⟨_, rfl⟩
  · split
    · obtain ⟨v, ev⟩ := l 30 0 (by omega) (by omega) rfl
      rw [q_getR (k := 4) h.1 rfl, Option.bind_some, ev, Option.bind_some]; exact ⟨_, rfl⟩
    · split
      · obtain ⟨v, ev⟩ := l 32 0 (by omega) (by omega) rfl
        rw [q_getR (k := 6) h.1 rfl, Option.bind_some, ev, Option.bind_some]; exact ⟨_, rfl⟩
      · split
        · obtain ⟨v, ev⟩ := l 33 0 (by omega) (by omega) rfl
          rw [q_getR (k := 7) h.1 rfl, Option.bind_some, ev, Option.bind_some]; exact ⟨_, rfl⟩
        · split
          · obtain ⟨v, ev⟩ := l 29 0 (by omega) (by omega) rfl
            rw [q_getR (k := 3) h.1 rfl, Option.bind_some, ev, Option.bind_some]
            split <;> exact ⟨_, rfl⟩
          · split
            · obtain ⟨v, ev⟩ := l 34 2 (by omega) (by omega) rfl
              rw [q_getR (k := 8) h.1 rfl, Option.bind_some, ev, Option.bind_some]
              split <;> exact ⟨_, rfl⟩
            · exact ⟨_, rfl⟩
theorem jW_part (ho : qCo w rd) (hr : jR w T U n4 n6 rd) (i what : Int32) : jAs w ["java/lang/IllegalStateException", "java/lang/IndexOutOfBoundsException"] (fW_part 0 i what w) := by
  obtain ⟨tr, hr', szr, dpr, nmr, syr, spr, co, fr, en, pa, he, r4, r6, f4, f6, ml, ct, hs, hR, t4, t6, hml, hct, hz⟩ := hr
  have hp := hR.2.2.2.2.1
  have e0 : (0 : Int32).toInt = 0 := rfl
  unfold fW_part fW_part_33
  rw [q_getI (k := 10) ho rfl, Option.bind_some]
  split
  · split
    · exact jAs.t _ _ (by simp) w
    · rename_i h0
      rw [q_lti] at h0
      rw [q_getR (k := 9) ho rfl, Option.bind_some, q_getI (k := 12) hp.1 rfl, Option.bind_some]
      by_cases h1 : i < Int32.ofNat ct
      · rw [if_pos h1]
        rw [q_lti, q_ofi (by omega)] at h1
        obtain ⟨v, ev⟩ := hp.numOf i what (by omega) (by omega)
        rw [Option.bind_some, q_obj hp.1, Option.bind_some, ev, q_call, q_kI]
        exact Or.inl ⟨_, rfl⟩
      · rw [if_neg h1]
        exact jAs.t _ _ (by simp) w
  · exact jAs.t _ _ (by simp) w
theorem jW_partByte (ho : qCo w rd) (ht : jB w T 14 L nt) (hr : jR w T U n4 n6 rd) (i b : Int32) : jAs w ["java/lang/IllegalStateException", "java/lang/IndexOutOfBoundsException"] (fW_partByte 0 i b w) := by
  obtain ⟨tr, hr', szr, dpr, nmr, syr, spr, co, fr, en, pa, he, r4, r6, f4, f6, ml, ct, hs, hR, t4, t6, hml, hct, hz⟩ := hr
  obtain ⟨rt, ft, ht, -⟩ := ht
  have hp := hR.2.2.2.2.1
  have e0 : (0 : Int32).toInt = 0 := rfl
  unfold fW_partByte fW_partByte_33 fW_partByte_60
  rw [q_getI (k := 10) ho rfl, Option.bind_some]
  split
  · split
    · exact jAs.t _ _ (by simp) w
    · rename_i h0
      rw [q_lti] at h0
      rw [q_getR (k := 9) ho rfl, Option.bind_some, q_getI (k := 12) hp.1 rfl, Option.bind_some]
      by_cases h1 : i < Int32.ofNat ct
      · rw [if_pos h1]
        rw [q_lti, q_ofi (by omega)] at h1
        split
        · exact jAs.t _ _ (by simp) w
        · obtain ⟨v, ev⟩ := hp.ld 32 0 i (by omega) (by omega) rfl (by omega) (by omega)
          obtain ⟨v2, ev2⟩ := hp.ld 31 0 i (by omega) (by omega) rfl (by omega) (by omega)
          rw [Option.bind_some, q_getR (k := 6) hp.1 rfl, Option.bind_some, ev, Option.bind_some]
          split
          · rw [q_getR (k := 5) ho rfl, Option.bind_some, Option.bind_some, q_getR (k := 5) hp.1 rfl, Option.bind_some, ev2, Option.bind_some, q_obj ht.o, Option.bind_some, ht.get, q_call, q_kI]
            exact Or.inl ⟨_, rfl⟩
          · exact jAs.t _ _ (by simp) w
      · rw [if_neg h1]
        exact jAs.t _ _ (by simp) w
  · exact jAs.t _ _ (by simp) w
theorem qPr.spoilt {lc : Int32} {ct : Nat} {pa : Nat → Nat → Int32} (h : qPr w lc (Int32.ofNat ct) pa) (hc : ct ≤ 300) : ∀ (n i F : Nat) (a : Int32), i + n = ct → n < F → ∃ v, fPartReader_spoiltOnes_4 F 28 a (Int32.ofNat i) w = some (.inl (some (.int v)), w)
  | 0, i, F + 1, a, hi, _ => by
    rw [fPartReader_spoiltOnes_4, q_getI (k := 12) h.1 rfl, Option.bind_some, if_pos ((q_of_le (by omega) (by omega)).mpr (by omega))]
    exact ⟨_, rfl⟩
  | n + 1, i, F + 1, a, hi, hF => by
    obtain ⟨v, ev⟩ := h.numOf (Int32.ofNat i) 4 (by rw [q_ofi (by omega)]; omega) (by rw [q_ofi (by omega)]; omega)
    rw [fPartReader_spoiltOnes_4, q_getI (k := 12) h.1 rfl, Option.bind_some, if_neg (fun hh => by have := (q_of_le (by omega) (by omega)).mp hh; omega), q_obj h.1, Option.bind_some, ev, q_call, q_kI, q_let, q_let, show Int32.ofNat i + 1 = Int32.ofNat (i + 1) from (Int32.ofNat_add i 1).symm]
    exact qPr.spoilt h hc n (i + 1) F _ (by omega) (by omega)
theorem qPr.whole {lc : Int32} {ct : Nat} {pa : Nat → Nat → Int32} (h : qPr w lc (Int32.ofNat ct) pa) (hc : ct ≤ 300) : ∀ (n i F : Nat) (a : Int32), i + n = ct → n < F → ∃ v, fPartReader_wholePackets_4 F 28 a (Int32.ofNat i) w = some (.inl (some (.int v)), w)
  | 0, i, F + 1, a, hi, _ => by
    rw [fPartReader_wholePackets_4, q_getI (k := 12) h.1 rfl, Option.bind_some, if_pos ((q_of_le (by omega) (by omega)).mpr (by omega))]
    exact ⟨_, rfl⟩
  | n + 1, i, F + 1, a, hi, hF => by
    obtain ⟨v, ev⟩ := h.ld 33 0 (Int32.ofNat i) (by omega) (by omega) rfl (by rw [q_ofi (by omega)]; omega) (by rw [q_ofi (by omega)]; omega)
    rw [fPartReader_wholePackets_4, q_getI (k := 12) h.1 rfl, Option.bind_some, if_neg (fun hh => by have := (q_of_le (by omega) (by omega)).mp hh; omega), q_getR (k := 7) h.1 rfl, Option.bind_some, ev, Option.bind_some, q_let, q_let, show Int32.ofNat i + 1 = Int32.ofNat (i + 1) from (Int32.ofNat_add i 1).symm]
    exact qPr.whole h hc n (i + 1) F _ (by omega) (by omega)
end
/-- how unknown ends, and what it answers -/
def u_c (U : List (Nat × Nat)) (k what : Int32) : Int32 := if ¬ (0 ≤ k.toInt ∧ k.toInt < U.length) then 1 else match U[k.toInt.toNat]? with
  | none => 1
  | some q => if ¬ (-2 ≤ what.toInt ∧ what.toInt < (q.2 - q.1 - 8 : Nat)) then 1 else 0
def u_v (L : List Int32) (U : List (Nat × Nat)) (k what : Int32) : Int32 := match U[k.toInt.toNat]? with
  | none => 0
  | some q => if what = -1 then Int32.ofNat (nb4 L (q.1 + 4)) else if what = -2 then Int32.ofNat (q.2 - q.1 - 8) else Int32.ofNat (nb L (q.1 + 8 + what.toInt.toNat))
section
variable {w : PW} {T : Nat → Nat} {rd : Int32} {L : List Int32} {U : List (Nat × Nat)} {n4 n6 nt : Nat} {tw th : Int32} {sz dp nm sy sp : Nat → Int32} {z : Nat → Int32} {g : Nat → Nat → Int32}
theorem jW_at (ho : qCo w rd) (hrd : rd = 0 ∨ rd = 1) (hr : jR w T U n4 n6 rd) (what t c : Int32) : jAs w ["java/lang/IllegalStateException", "java/lang/IndexOutOfBoundsException"] (fW_at 0 what t c w) := by
  obtain ⟨tr, hr', szr, dpr, nmr, syr, spr, co, fr, en, pa, he, r4, r6, f4, f6, ml, ct, hs, hR, t4, t6, hml, hct, hz⟩ := hr
  have e0 : (0 : Int32).toInt = 0 := rfl
  have e2 : (2 : Int32).toInt = 2 := rfl
  have e3 : (3 : Int32).toInt = 3 := rfl
  have e4 : (4 : Int32).toInt = 4 := rfl
  have e11 : (11 : Int32).toInt = 11 := rfl
  have e10 : (10 : Int32).toInt = 10 := rfl
  obtain ⟨f16, o16⟩ := hs.obj
  unfold fW_at
  rw [q_getI (k := 10) ho rfl, Option.bind_some]
  by_cases hrd0 : rd = 0
  · rw [if_neg (not_not_intro hrd0)]
    exact jAs.t _ _ (by simp) w
  · have z4 := hz (hrd.resolve_left hrd0)
    rw [if_pos hrd0, q_obj ho, Option.bind_some]
    -- what canBeAsked says
    have ask : ∃ v, fW_canBeAsked 0 what t c w = some (.inl (some (.int v)), w) ∧ (v = 0 ∨ (0 ≤ what ∧ what ≤ 11 ∧ (what = 3 → c < 4))) := by
      have f74 : ∀ a b : Int32, ∃ v, fW_canBeAsked_74 a b w = some (.inl (some (.int v)), w) ∧ (b = 0 → v = 0) := by
        intro a b
        unfold fW_canBeAsked_74
        by_cases ha : a = 0
        · rw [if_pos ha]; exact ⟨0, rfl, fun _ => rfl⟩
        · rw [if_neg ha]
          by_cases hb : b = 0
          · rw [if_pos hb]; exact ⟨0, rfl, fun _ => rfl⟩
          · rw [if_neg hb]; exact ⟨1, rfl, fun y => absurd y hb⟩
      have f46 : ∀ s : Int32, 0 ≤ what → what ≤ 11 → ∃ v, fW_canBeAsked_46 0 what c s w = some (.inl (some (.int v)), w) ∧ (v = 0 ∨ (0 ≤ what ∧ what ≤ 11 ∧ (what = 3 → c < 4))) := by
        intro s w0 w1
        unfold fW_canBeAsked_46
        by_cases h4 : what = 4
        · rw [if_pos h4]
          obtain ⟨v, ev, -⟩ := f74 s 1
          exact ⟨v, ev, Or.inr ⟨w0, w1, fun y => by rw [h4] at y; exact absurd y (by decide)⟩⟩
        · rw [if_neg h4]
          by_cases h5 : what = 5
          · rw [if_pos h5]
            obtain ⟨v, ev, -⟩ := f74 s 1
            exact ⟨v, ev, Or.inr ⟨w0, w1, fun y => by rw [h5] at y; exact absurd y (by decide)⟩⟩
          · rw [if_neg h5, q_getR (k := 6) ho rfl, Option.bind_some, o16, Option.bind_some, hs.isComponent, q_call, q_kI]
            by_cases hc : c < 0
            · rw [if_pos hc, if_pos rfl]
              obtain ⟨v, ev, i⟩ := f74 s 0
              exact ⟨v, ev, Or.inl (i rfl)⟩
            · rw [if_neg hc]
              by_cases hc2 : szr 2 ≤ c
              · rw [if_pos hc2, if_pos rfl]
                obtain ⟨v, ev, i⟩ := f74 s 0
                exact ⟨v, ev, Or.inl (i rfl)⟩
              · rw [if_neg hc2, if_neg (show ¬ (1 : Int32) = 0 by decide)]
                obtain ⟨v, ev, -⟩ := f74 s 1
                rw [q_lei] at hc2
                exact ⟨v, ev, Or.inr ⟨w0, w1, fun _ => by rw [q_lti]; omega⟩⟩
      unfold fW_canBeAsked
      by_cases h0 : what < 0
      · rw [if_pos h0]
        exact ⟨0, rfl, Or.inl rfl⟩
      · have w0 : 0 ≤ what := by rw [q_lei]; rw [q_lti] at h0; omega
        rw [if_neg h0]
        by_cases h1 : what ≤ 11
        · rw [if_pos h1]
          by_cases h2 : what ≤ 2
          · rw [if_pos h2]
            exact ⟨1, rfl, Or.inr ⟨w0, h1, fun y => by rw [y] at h2; exact absurd h2 (by decide)⟩⟩
          · rw [if_neg h2]
            by_cases h3 : what = 11
            · rw [if_neg (not_not_intro h3)]
              exact ⟨1, rfl, Or.inr ⟨w0, h1, fun y => by rw [h3] at y; exact absurd y (by decide)⟩⟩
            · rw [if_pos h3]
              by_cases h4 : what = 3
              · rw [if_pos h4]
                exact f46 1 w0 h1
              · rw [if_neg h4, q_getR (k := 6) ho rfl, Option.bind_some, o16, Option.bind_some, hs.isTile, q_call, q_kI]
                generalize (if t < 0 then (0 : Int32) else if q_many (szr 0) tr * q_many (szr 1) hr' ≤ t then 0 else 1) = u
                by_cases hu : u = 0
                · rw [if_pos hu]; exact f46 0 w0 h1
                · rw [if_neg hu]; exact f46 1 w0 h1
        · rw [if_neg h1]
          exact ⟨0, rfl, Or.inl rfl⟩
    obtain ⟨v, ev, hv⟩ := ask
    rw [ev, q_call, q_kI]
    by_cases v0 : v = 0
    · rw [if_neg (not_not_intro v0)]
      exact jAs.t _ _ (by simp) w
    · obtain ⟨w0, w1, w3⟩ := hv.resolve_left v0
      rw [if_pos v0]
      by_cases h11 : what = 11
      · rw [if_neg (not_not_intro h11), q_getR (k := 7) ho rfl, Option.bind_some, q_getI (k := 3) hR.1 rfl, Option.bind_some]
        exact Or.inl ⟨_, rfl⟩
      · have h10 : what ≤ 10 := by
          rw [q_lei] at w1 ⊢
          have : what.toInt ≠ 11 := fun y => h11 (q_i32 y)
          omega
        rw [if_pos h11, q_getR (k := 6) ho rfl, Option.bind_some, o16, Option.bind_some, hs.valueOf what t c w0 h10 w3, q_call, q_kI]
        exact Or.inl ⟨_, rfl⟩
theorem jW_told (ho : qCo w rd) (hs : qS w 1 tw th sz dp nm sy sp) {e7 e8 : Value} {P Q : List Nat} (h7 : qL w 7 e7 P) (h8 : qL w 8 e8 Q) (h9 : w.1[9]? = some (.inr (9, [.ref 10]))) {ro no rf nf : Nat} {Lo Lf : List Int32} {fo ff : Nat → Int32} (hb : qB w 10 ro 20000 no Lo fo) (hf : qB w 12 rf 20000 nf Lf ff) (hr : jR w T U n4 n6 rd) (what : Int32) : ∃ v, fW_told 0 what w = some (.inl (some (.int v)), w) := by
  obtain ⟨tr, hr', szr, dpr, nmr, syr, spr, co, fr, en, pa, he, r4, r6, f4, f6, ml, ct, hs', hR, t4, t6, hml, hct, hz⟩ := hr
  have hp := hR.2.2.2.2.1
  obtain ⟨f1, o1'⟩ := hs.obj
  obtain ⟨f7, o7⟩ := h7.obj
  obtain ⟨f8, o8⟩ := h8.obj
  unfold fW_told
  split
  · rw [q_getR (k := 0) ho rfl, Option.bind_some, o1', Option.bind_some, hs.tiles, q_call, q_kI]; exact ⟨_, rfl⟩
  · split
    · rw [q_getR (k := 1) ho rfl, Option.bind_some, o7, Option.bind_some, h7.size, q_call, q_kI]; exact ⟨_, rfl⟩
    · split
      · rw [q_getR (k := 2) ho rfl, Option.bind_some, o8, Option.bind_some, h8.size, q_call, q_kI]; exact ⟨_, rfl⟩
      · split
        · rw [q_getR (k := 3) ho rfl, Option.bind_some, q_getR (k := 0) h9 rfl, Option.bind_some, q_getI (k := 2) hb.o rfl, Option.bind_some]; exact ⟨_, rfl⟩
        · split
          · rw [q_getR (k := 4) ho rfl, Option.bind_some, q_getI (k := 2) hf.o rfl, Option.bind_some]; exact ⟨_, rfl⟩
          · split
            · rw [q_getR (k := 9) ho rfl, Option.bind_some, q_getI (k := 12) hp.1 rfl, Option.bind_some]; exact ⟨_, rfl⟩
            · split
              · rw [q_getR (k := 7) ho rfl, Option.bind_some, q_getR (k := 1) hR.1 rfl, Option.bind_some, q_getI (k := 1) hR.2.1.1 rfl, Option.bind_some]; exact ⟨_, rfl⟩
              · split
                · obtain ⟨v, ev⟩ := hp.spoilt hct ct 0 FUEL 0 (by omega) (by show _ < 1000000; omega)
                  rw [q_getR (k := 9) ho rfl, Option.bind_some, q_obj hp.1, Option.bind_some]
                  unfold fPartReader_spoiltOnes
                  rw [show fPartReader_spoiltOnes_4 FUEL 28 0 0 w = _ from ev, q_call, q_kI]; exact ⟨_, rfl⟩
                · split
                  · obtain ⟨v, ev⟩ := hp.whole hct ct 0 FUEL 0 (by omega) (by show _ < 1000000; omega)
                    rw [q_getR (k := 9) ho rfl, Option.bind_some, q_obj hp.1, Option.bind_some]
                    unfold fPartReader_wholePackets
                    rw [show fPartReader_wholePackets_4 FUEL 28 0 0 w = _ from ev, q_call, q_kI]; exact ⟨_, rfl⟩
                  · exact ⟨_, rfl⟩
theorem q_byte_ofN {A : List Int32} {i : Nat} (hi : i < A.length) (hn : i < 2147483648) : q_byte A (Int32.ofNat i) = A[i] := by
  unfold q_byte
  rw [if_neg (by rw [q_lti, q_ofi hn]; show ¬ (i : Int) < 0; omega), q_tno hn, List.getElem?_eq_getElem hi]
  rfl
theorem jW_unknown (ho : qCo w rd) (ht : jB w T 14 L nt) (hr : jR w T U n4 n6 rd) (hU : uOk U L.length) (k what : Int32) : (u_c U k what = 1 → ∃ w', fW_unknown 0 k what w = some (.inr "java/lang/IndexOutOfBoundsException", w') ∧ qT w w') ∧ (u_c U k what = 0 → fW_unknown 0 k what w = some (.inl (some (.int (u_v L U k what))), w)) := by
  obtain ⟨tr, hr', szr, dpr, nmr, syr, spr, co, fr, en, pa, he, r4, r6, f4, f6, ml, ct, hs', hR, t4, t6, hml, hct, hz⟩ := hr
  obtain ⟨rt, ft, ht, -⟩ := ht
  have hl : L.length ≤ 20000 := ht.2.2.2.1
  have e0 : (0 : Int32).toInt = 0 := rfl
  have em2 : (-2 : Int32).toInt = -2 := rfl
  have em1 : (-1 : Int32).toInt = -1 := rfl
  have hUl : U.length ≤ 4096 := by
    have a := hR.2.1.2.2.1
    have b := hR.2.1.2.2.2.1
    unfold uA at a
    rw [List.length_map] at a
    omega
  have lA : (uA U).length = U.length := by unfold uA; rw [List.length_map]
  have lB : (uB U).length = U.length := by unfold uB; rw [List.length_map]
  unfold fW_unknown fW_unknown_18 fW_unknown_70
  by_cases h0 : k < 0
  · rw [if_pos h0]
    rw [q_lti] at h0
    have : u_c U k what = 1 := by unfold u_c; rw [if_pos (by omega)]
    rw [this]
    exact ⟨fun _ => q_throw _ _, fun y => absurd y (by decide)⟩
  · rw [if_neg h0]
    rw [q_lti] at h0
    rw [q_getR (k := 7) ho rfl, Option.bind_some, q_getR (k := 1) hR.1 rfl, Option.bind_some, q_getI (k := 1) hR.2.1.1 rfl, Option.bind_some, lA]
    by_cases h1 : k.toInt < U.length
    · have hk : k.toInt.toNat < U.length := by omega
      have ek := q_on k (by omega)
      obtain ⟨u1, u2⟩ := hU U[k.toInt.toNat] (List.getElem_mem hk)
      have hU? : U[k.toInt.toNat]? = some U[k.toInt.toNat] := List.getElem?_eq_getElem hk
      generalize hq : U[k.toInt.toNat] = q at u1 u2 hU?
      have g1 : fNumbers_get 23 k w = some (.inl (some (.int (Int32.ofNat q.1))), w) := by
        rw [hR.2.1.get]
        conv => lhs; rw [ek]
        rw [q_byte_ofN (by rw [lA]; exact hk) (by omega)]
        unfold uA
        rw [List.getElem_map, hq]
      have g2 : fNumbers_get 25 k w = some (.inl (some (.int (Int32.ofNat q.2))), w) := by
        rw [hR.2.2.1.get]
        conv => lhs; rw [ek]
        rw [q_byte_ofN (by rw [lB]; exact hk) (by omega)]
        unfold uB
        rw [List.getElem_map, hq]
      have es : Int32.ofNat q.2 - Int32.ofNat q.1 - 8 = Int32.ofNat (q.2 - q.1 - 8) := by
        rw [q_subn (by omega) (by omega)]
        exact q_subn (a := 8) (by omega) (by omega)
      have uc : u_c U k what = if ¬ (-2 ≤ what.toInt ∧ what.toInt < (q.2 - q.1 - 8 : Nat)) then 1 else 0 := by
        unfold u_c
        rw [if_neg (not_not_intro ⟨by omega, h1⟩), hU?]
      have uv : u_v L U k what = if what = -1 then Int32.ofNat (nb4 L (q.1 + 4)) else if what = -2 then Int32.ofNat (q.2 - q.1 - 8) else Int32.ofNat (nb L (q.1 + 8 + what.toInt.toNat)) := by
        unfold u_v
        rw [hU?]
      rw [uc, uv, if_pos (show k < Int32.ofNat U.length by rw [q_lti, q_ofi (by omega)]; exact h1), Option.bind_some, q_getR (k := 1) hR.1 rfl, Option.bind_some, q_obj hR.2.1.1, Option.bind_some, g1, q_call, q_kI, q_getR (k := 7) ho rfl, Option.bind_some, q_getR (k := 2) hR.1 rfl, Option.bind_some, q_obj hR.2.2.1.1, Option.bind_some, g2, q_call, q_kI, q_let, es]
      by_cases h2 : what < -2
      · rw [if_pos h2]
        rw [q_lti] at h2
        rw [if_pos (by omega)]
        exact ⟨fun _ => q_throw _ _, fun y => absurd y (by decide)⟩
      · rw [if_neg h2]
        rw [q_lti] at h2
        have c3 : what < Int32.ofNat (q.2 - q.1 - 8) ↔ what.toInt < (q.2 - q.1 - 8 : Nat) := by rw [q_lti, q_ofi (by omega)]
        by_cases h3 : what.toInt < (q.2 - q.1 - 8 : Nat)
        · rw [if_pos (c3.mpr h3), if_neg (not_not_intro ⟨by omega, h3⟩)]
          refine ⟨fun y => absurd y (by decide), fun _ => ?_⟩
          by_cases h4 : what = -1
          · have kd : fBoxReader_kindAt 22 (Int32.ofNat q.1) w = some (.inl (some (.int (Int32.ofNat (nb4 L (q.1 + 4))))), w) := by
              unfold fBoxReader_kindAt
              rw [q_getR (k := 0) hR.1 rfl, Option.bind_some, q_obj ht.o, Option.bind_some, show Int32.ofNat q.1 + 4 = Int32.ofNat (q.1 + 4) from (Int32.ofNat_add _ 4).symm, ht.num4, q_call, q_kJ, q_num4 ht.by _ (by omega), q_32n]
            rw [if_neg (not_not_intro h4), if_pos h4, q_getR (k := 7) ho rfl, Option.bind_some, q_obj hR.1, Option.bind_some, kd, q_call, q_kI]
          · rw [if_pos h4, if_neg h4]
            by_cases h5 : what = -2
            · rw [if_neg (not_not_intro h5), if_pos h5]
            · have n1 : what.toInt ≠ -1 := fun y => h4 (q_i32 y)
              have n2 : what.toInt ≠ -2 := fun y => h5 (q_i32 y)
              have ew := q_on what (by omega)
              have ea : Int32.ofNat q.1 + 8 + what = Int32.ofNat (q.1 + 8 + what.toInt.toNat) := by
                conv => lhs; rw [ew]
                rw [show Int32.ofNat q.1 + 8 = Int32.ofNat (q.1 + 8) from (Int32.ofNat_add _ 8).symm]
                exact (Int32.ofNat_add _ _).symm
              rw [if_pos h5, if_neg h5, q_getR (k := 5) ho rfl, Option.bind_some, q_obj ht.o, Option.bind_some, ea, ht.gn _ (by omega), q_call, q_kI]
        · rw [if_neg (fun y => h3 (c3.mp y)), if_pos (by omega)]
          exact ⟨fun _ => q_throw _ _, fun y => absurd y (by decide)⟩
    · rw [if_neg (show ¬ k < Int32.ofNat U.length by rw [q_lti, q_ofi (by omega)]; exact h1)]
      have : u_c U k what = 1 := by unfold u_c; rw [if_pos (by omega)]
      rw [this]
      exact ⟨fun _ => q_throw _ _, fun y => absurd y (by decide)⟩
theorem qM.unknown (h : qM w z g) (hr : gRd z g L U) (hL : qby L) (hl : L.length ≤ 20000) (hU : uOk U L.length) (hUl : U.length ≤ 2600) (k what : Int32) : ∃ w' v, fD_unknown 37 k what w = some (.inl (some (.int v)), w') ∧ qM w' (upd z 0 (u_c U k what)) g ∧ qI 37 66 w w' ∧ (u_c U k what = 0 → v = u_v L U k what) := by
  obtain ⟨hy, ⟨h27, hu⟩, -⟩ := hr
  have e0 : (0 : Int32).toInt = 0 := rfl
  have no : u_c U k what = 1 → ∃ w' v, fD_unknown_42 37 k what 1 37 w = some (.inl (some (.int v)), w') ∧ qM w' (upd z 0 (u_c U k what)) g ∧ qI 37 66 w w' ∧ (u_c U k what = 0 → v = u_v L U k what) := by
    intro hc
    rw [hc]
    obtain ⟨w1, e1, q1, F1⟩ := h.put 0 1 (by omega) rfl
    have gI : p_getI w1 37 10 0 = some 1 := by rw [q1.I 0 rfl]; rfl
    unfold fD_unknown_42
    rw [e1, Option.bind_some, gI, Option.bind_some, if_neg (by decide)]
    exact ⟨w1, 0, rfl, q1, F1, fun y => absurd y (by decide)⟩
  unfold fD_unknown
  rw [h.I 27 rfl, Option.bind_some, h27, q_inN k U.length (by omega), q_call, q_kI]
  by_cases h1 : 0 ≤ k.toInt ∧ k.toInt < U.length
  · have hk : k.toInt.toNat < U.length := by omega
    have ek := q_on k h1.1
    obtain ⟨u1, u2⟩ := hU U[k.toInt.toNat] (List.getElem_mem hk)
    have hU? : U[k.toInt.toNat]? = some U[k.toInt.toNat] := List.getElem?_eq_getElem hk
    obtain ⟨g55, g56⟩ := hu k.toInt.toNat hk
    generalize hq : U[k.toInt.toNat] = q at u1 u2 hU? g55 g56
    have uc : u_c U k what = if ¬ (-2 ≤ what.toInt ∧ what.toInt < (q.2 - q.1 - 8 : Nat)) then 1 else 0 := by
      unfold u_c
      rw [if_neg (not_not_intro h1), hU?]
    have uv : u_v L U k what = if what = -1 then Int32.ofNat (nb4 L (q.1 + 4)) else if what = -2 then Int32.ofNat (q.2 - q.1 - 8) else Int32.ofNat (nb L (q.1 + 8 + what.toInt.toNat)) := by
      unfold u_v
      rw [hU?]
    have l56 : ∀ w0 : PW, ∀ z0, qM w0 z0 g → p_ald w0 56 0 k = some (Int32.ofNat (q.2 - q.1 - 8)) := fun w0 z0 h0 => by
      conv => lhs; rw [ek]
      rw [h0.ldn 56 0 k.toInt.toNat rfl (by omega) (by omega) (by show _ < 2600; omega) (by decide), g56]
    have l55 : ∀ w0 : PW, ∀ z0, qM w0 z0 g → p_ald w0 55 0 k = some (Int32.ofNat q.1) := fun w0 z0 h0 => by
      conv => lhs; rw [ek]
      rw [h0.ldn 55 0 k.toInt.toNat rfl (by omega) (by omega) (by show _ < 2600; omega) (by decide), g55]
    have im2 : (-2 : Int64).toInt = -2 := rfl
    rw [if_pos h1, if_neg (show ¬ (1 : Int32) = 0 by decide), h.R 29 56 rfl, Option.bind_some, l56 w z h, Option.bind_some, q_in, q_call, q_kI, q_64, q_sub1 (by rw [q_ofi (by omega)]; omega), q_ofi (by omega), im2]
    by_cases h2 : -2 ≤ what.toInt ∧ what.toInt < (q.2 - q.1 - 8 : Nat)
    · have uc0 : u_c U k what = 0 := by rw [uc, if_neg (not_not_intro h2)]
      rw [if_pos (show (-2 : Int) ≤ what.toInt ∧ what.toInt ≤ ((q.2 - q.1 - 8 : Nat) : Int) - 1 by omega), if_pos (show ¬ (1 : Int32) = 0 by decide), uc0, uv]
      obtain ⟨w1, e1, q1, F1⟩ := h.put 0 0 (by omega) rfl
      have gI : p_getI w1 37 10 0 = some 0 := by rw [q1.I 0 rfl]; rfl
      unfold fD_unknown_42
      rw [e1, Option.bind_some, gI, Option.bind_some, if_pos (by decide)]
      by_cases h4 : what = -1
      · rw [if_neg (not_not_intro h4), q1.R 28 55 rfl, Option.bind_some, l55 w1 _ q1, Option.bind_some, q1.obj, Option.bind_some, show Int32.ofNat q.1 + 4 = Int32.ofNat (q.1 + 4) from (Int32.ofNat_add _ 4).symm, q1.four hy hL hl (q.1 + 4) (by omega), q_call, q_kJ, q_32n]
        exact ⟨w1, _, rfl, q1, F1, fun _ => by rw [if_pos h4]⟩
      · rw [if_pos h4]
        by_cases h5 : what = -2
        · rw [if_neg (not_not_intro h5), q1.R 29 56 rfl, Option.bind_some, l56 w1 _ q1, Option.bind_some]
          exact ⟨w1, _, rfl, q1, F1, fun _ => by rw [if_neg h4, if_pos h5]⟩
        · have em2 : (-2 : Int32).toInt = -2 := rfl
          have em1 : (-1 : Int32).toInt = -1 := rfl
          have n1 : what.toInt ≠ -1 := fun y => h4 (q_i32 y)
          have n2 : what.toInt ≠ -2 := fun y => h5 (q_i32 y)
          have ew := q_on what (by omega)
          have ea : Int32.ofNat q.1 + 8 + what = Int32.ofNat (q.1 + 8 + what.toInt.toNat) := by
            conv => lhs; rw [ew]
            rw [show Int32.ofNat q.1 + 8 = Int32.ofNat (q.1 + 8) from (Int32.ofNat_add _ 8).symm]
            exact (Int32.ofNat_add _ _).symm
          rw [if_pos h5, q1.R 23 54 rfl, Option.bind_some, q1.R 28 55 rfl, Option.bind_some, l55 w1 _ q1, Option.bind_some, ea, q1.had hy hL hl _ (by omega), Option.bind_some]
          exact ⟨w1, _, rfl, q1, F1, fun _ => by rw [if_neg h4, if_neg h5]⟩
    · rw [if_neg (show ¬ ((-2 : Int) ≤ what.toInt ∧ what.toInt ≤ ((q.2 - q.1 - 8 : Nat) : Int) - 1) by omega), if_neg (show ¬ ¬ (0 : Int32) = 0 from not_not_intro rfl)]
      exact no (by rw [uc, if_pos h2])
  · rw [if_neg h1, if_pos rfl]
    exact no (by unfold u_c; rw [if_pos h1])
end
/-- the class's side of the world -/
def JC (w : PW) (T : Nat → Nat) (tw th : Int32) (sz dp nm sy sp : Nat → Int32) (n m : Nat) (pt : Nat → Int32) (pk : Nat → Nat) (lv : Nat → Nat → Nat) (pL : Nat → List Int32) (bi bk : Nat → Int32) (bL : Nat → List Int32) (Lo Lf Lt : List Int32) (rd : Int32) (U : List (Nat × Nat)) (no nf nt n4 n6 : Nat) : Prop :=
  67 ≤ w.1.length ∧ qCo w rd ∧ (rd = 0 ∨ rd = 1) ∧ w.1[9]? = some (.inr (9, [.ref 10])) ∧ qS w 1 tw th sz dp nm sy sp ∧ jP w T n pt pk lv pL ∧ jX w T m bi bk bL ∧ jB w T 10 Lo no ∧ jB w T 12 Lf nf ∧ jB w T 14 Lt nt ∧ jR w T U n4 n6 rd ∧ ∃ f, w.1[66]? = some (.inl (3, 1, .inr (.inl f)))
/-- the reference's side -/
def JM (z : Nat → Int32) (g : Nat → Nat → Int32) (tw th : Int32) (sz dp nm sy sp : Nat → Int32) (n m : Nat) (pt : Nat → Int32) (pk : Nat → Nat) (lv : Nat → Nat → Nat) (pL : Nat → List Int32) (bi bk : Nat → Int32) (bL : Nat → List Int32) (Lo Lf Lt : List Int32) (U : List (Nat × Nat)) : Prop :=
  (qR tw th sz dp nm sy sp g ∧ ∀ i, i < 4 → 1 ≤ (dp i).toInt) ∧ (z 8 = Int32.ofNat n ∧ n ≤ 40 ∧ qRp g n pt pk lv pL) ∧ (z 14 = Int32.ofNat m ∧ qRb g m bi bk bL) ∧ (z 20 = Int32.ofNat Lo.length ∧ qY g 52 Lo) ∧ (z 22 = Int32.ofNat Lf.length ∧ qY g 53 Lf) ∧ (gRd z g Lt U ∧ uOk U Lt.length ∧ U.length ≤ 2600) ∧ g01 g ∧ (z 1 = tw ∧ z 2 = th)
/-- the room used -/
def jRm (w : PW) (N c : Nat) : Prop := w.2.2 ≤ 108568 + 7 * N + 2200 * c ∧ 3 * w.2.1 + 108568 ≤ 201 + w.2.2
/-- the state between calls -/
def J (c : Nat) (w : PW) : Prop := ∃ T tw th sz dp nm sy sp n m pt pk lv pL bi bk bL Lo Lf Lt rd U no nf nt n4 n6 z g, JC w T tw th sz dp nm sy sp n m pt pk lv pL bi bk bL Lo Lf Lt rd U no nf nt n4 n6 ∧ qM w z g ∧ JM z g tw th sz dp nm sy sp n m pt pk lv pL bi bk bL Lo Lf Lt U ∧ jRm w (no + nf + nt + n4 + n6) c
/-- a compared call -/
def jC (c : Nat) (A : PX) (B : PW → PX) : Prop := ∃ k w1 b w2, A = some (.inl (some (.int k)), w1) ∧ (∃ fs, p_obj w1 37 10 = some fs) ∧ B w1 = some (.inl (some (.int b)), w2) ∧ (∃ fs, p_obj w2 37 10 = some fs) ∧ fD_thrown 37 w2 = some (.inl (some (.int k)), w2) ∧ (k = 0 → p_aldJ w2 66 0 = some (Int32.toInt64 b)) ∧ J (c + 1) w2
/-- a call that is not compared -/
def jU (c : Nat) (A : PX) (B : PW → PX) : Prop := ∃ k w1 b w2, A = some (.inl (some (.int k)), w1) ∧ (∃ fs, p_obj w1 37 10 = some fs) ∧ B w1 = some (.inl (some (.int b)), w2) ∧ J (c + 1) w2
/-- a call that answers alike -/
def jV (c : Nat) (A : PX) (B : PW → PX) : Prop := ∃ k w1 w2, A = some (.inl (some (.int k)), w1) ∧ (∃ fs, p_obj w1 37 10 = some fs) ∧ B w1 = some (.inl (some (.int k)), w2) ∧ J (c + 1) w2
theorem jC.u {c : Nat} {A : PX} {B : PW → PX} (h : jC c A B) : jU c A B := by
  obtain ⟨k, w1, b, w2, h1, h2, h3, h4, h5, h6, h7⟩ := h
  exact ⟨k, w1, b, w2, h1, h2, h3, h7⟩
theorem jV.u {c : Nat} {A : PX} {B : PW → PX} (h : jV c A B) : jU c A B := by
  obtain ⟨k, w1, w2, h1, h2, h3, h7⟩ := h
  exact ⟨k, w1, k, w2, h1, h2, h3, h7⟩
section
variable {w w' : PW} {T T' : Nat → Nat} {tw th : Int32} {sz dp nm sy sp : Nat → Int32} {n m : Nat} {pt : Nat → Int32} {pk : Nat → Nat} {lv : Nat → Nat → Nat} {pL : Nat → List Int32} {bi bk : Nat → Int32} {bL : Nat → List Int32} {Lo Lf Lt : List Int32} {rd : Int32} {U : List (Nat × Nat)} {no nf nt n4 n6 : Nat} {z z' : Nat → Int32} {g g' : Nat → Nat → Int32}
theorem JC.k0 (h : JC w T tw th sz dp nm sy sp n m pt pk lv pL bi bk bL Lo Lf Lt rd U no nf nt n4 n6) (D : qDf (fun x => 37 ≤ x ∧ x ≤ 66) (fun _ => False) T T w w') (h66 : ∃ f, w'.1[66]? = some (.inl (3, 1, .inr (.inl f)))) : JC w' T tw th sz dp nm sy sp n m pt pk lv pL bi bk bL Lo Lf Lt rd U no nf nt n4 n6 := by
  obtain ⟨h1, h2, h3, h4, h5, h6, h7, h8, h9, h10, h11, -⟩ := h
  refine ⟨Nat.le_trans h1 D.1, D.ats h2 (Or.inl (by omega)), h3, D.ats h4 (Or.inl (by omega)), h5.keep (fun x a b => D.at (by omega) (Or.inl (by omega))), h6.kp D (by omega) id (fun _ _ _ => id), h7.kp D (by omega) id (fun _ _ _ => id), h8.kp D (by omega) (by omega) (by omega) id, h9.kp D (by omega) (by omega) (by omega) id, h10.kp D (by omega) (by omega) (by omega) id, h11.kp D (fun x a b => by omega) id id, h66⟩
theorem JC.kI (h : JC w T tw th sz dp nm sy sp n m pt pk lv pL bi bk bL Lo Lf Lt rd U no nf nt n4 n6) (F : qI 37 66 w w') : JC w' T tw th sz dp nm sy sp n m pt pk lv pL bi bk bL Lo Lf Lt rd U no nf nt n4 n6 := by
  obtain ⟨f, hf⟩ := h.2.2.2.2.2.2.2.2.2.2.2
  exact h.k0 ⟨by rw [F.1]; exact Nat.le_refl _, fun x hx a b => F.2.2 x (by by_cases h67 : x < 67; have := a h67; omega; omega), fun _ _ => rfl⟩ ⟨f, by rw [F.2.2 66 (by omega), hf]⟩
theorem JC.kT (h : JC w T tw th sz dp nm sy sp n m pt pk lv pL bi bk bL Lo Lf Lt rd U no nf nt n4 n6) (F : qT w w') : JC w' T tw th sz dp nm sy sp n m pt pk lv pL bi bk bL Lo Lf Lt rd U no nf nt n4 n6 := by
  obtain ⟨f, hf⟩ := h.2.2.2.2.2.2.2.2.2.2.2
  exact h.k0 ⟨by rw [F.1]; exact Nat.le_refl _, fun x hx a b => by rw [F.1], fun _ _ => rfl⟩ ⟨f, by rw [F.1, hf]⟩
theorem JC.kE (h : JC w T tw th sz dp nm sy sp n m pt pk lv pL bi bk bL Lo Lf Lt rd U no nf nt n4 n6) (F : qE 66 w w') {f : Nat → Int64} (hf : w'.1[66]? = some (.inl (3, 1, .inr (.inl f)))) : JC w' T tw th sz dp nm sy sp n m pt pk lv pL bi bk bL Lo Lf Lt rd U no nf nt n4 n6 :=
  h.k0 ⟨by rw [F.1]; exact Nat.le_refl _, fun x hx a b => F.2.1 x (fun e => by have := a (by omega); omega), fun _ _ => rfl⟩ ⟨f, hf⟩
theorem qR.kg (h : qR tw th sz dp nm sy sp g) (hk : ∀ r, 38 ≤ r → r ≤ 42 → g' r = g r) : qR tw th sz dp nm sy sp g' := by
  unfold qR
  rw [hk 38 (by omega) (by omega), hk 39 (by omega) (by omega), hk 40 (by omega) (by omega), hk 41 (by omega) (by omega), hk 42 (by omega) (by omega)]
  exact h
theorem qRp.kg (h : qRp g n pt pk lv pL) (hk : ∀ r, 43 ≤ r → r ≤ 47 → g' r = g r) : qRp g' n pt pk lv pL := by
  unfold qRp
  rw [hk 43 (by omega) (by omega), hk 44 (by omega) (by omega), hk 45 (by omega) (by omega), hk 46 (by omega) (by omega), hk 47 (by omega) (by omega)]
  exact h
theorem qRb.kg (h : qRb g n bi bk bL) (hk : ∀ r, 48 ≤ r → r ≤ 51 → g' r = g r) : qRb g' n bi bk bL := by
  unfold qRb
  rw [hk 48 (by omega) (by omega), hk 49 (by omega) (by omega), hk 50 (by omega) (by omega), hk 51 (by omega) (by omega)]
  exact h
theorem qY.kg {k : Nat} {L : List Int32} (h : qY g k L) (hk : g' k = g k) : qY g' k L := by
  unfold qY
  rw [hk]
  exact h
theorem gRd.kg {L : List Int32} (h : gRd z g L U) (hk : ∀ r, 54 ≤ r → g' r = g r) (h42 : ∀ i, 5 ≤ i → g' 42 i = g 42 i) (hz : z' 25 = z 25 ∧ z' 27 = z 27 ∧ z' 30 = z 30) : gRd z' g' L U := by
  unfold gRd gTl gK at *
  rw [hk 54 (by omega) |> fun e => (show qY g' 54 L ↔ qY g 54 L from by unfold qY; rw [e]) |> propext, hk 55 (by omega), hk 56 (by omega), hk 59 (by omega), hk 60 (by omega), h42 5 (by omega), h42 6 (by omega), h42 7 (by omega), h42 8 (by omega), h42 9 (by omega), hz.1, hz.2.1, hz.2.2]
  exact h
theorem JM.up (h : JM z g tw th sz dp nm sy sp n m pt pk lv pL bi bk bL Lo Lf Lt U) (k : Int32) : JM (upd z 0 k) g tw th sz dp nm sy sp n m pt pk lv pL bi bk bL Lo Lf Lt U := by
  obtain ⟨h1, h2, h3, h4, h5, ⟨h6, h6'⟩, h7, h8⟩ := h
  exact ⟨h1, h2, h3, h4, h5, ⟨h6.kg (fun _ _ => rfl) (fun _ _ => rfl) ⟨rfl, rfl, rfl⟩, h6'⟩, h7, h8⟩
theorem jRm.mk {N N' c : Nat} (h : jRm w N c) (h1 : 3 * w'.2.1 + w.2.2 ≤ 3 * w.2.1 + w'.2.2) (h2 : w'.2.2 + 7 * N ≤ w.2.2 + 7 * N' + 2200) : jRm w' N' (c + 1) := by
  unfold jRm at *
  omega
/-- a call refused on both sides -/
theorem jThr {c N : Nat} {w1 : PW} {k : Int32} {A : PX} {B : PW → PX} (hN : N = no + nf + nt + n4 + n6) (hC : JC w T tw th sz dp nm sy sp n m pt pk lv pL bi bk bL Lo Lf Lt rd U no nf nt n4 n6) (hM : qM w z g) (hJ : JM z g tw th sz dp nm sy sp n m pt pk lv pL bi bk bL Lo Lf Lt U) (hR : jRm w N c) (hT : qT w w1) (hk : k ≠ 0) (hA : A = some (.inl (some (.int k)), w1)) (hB : ∀ w1, qM w1 z g → ∃ w2 b, B w1 = some (.inl (some (.int b)), w2) ∧ qI 37 66 w1 w2 ∧ qM w2 (upd z 0 k) g) : jC c A B := by
  subst hN
  have hM1 := hT.M hM
  obtain ⟨w2, b, e2, F2, q2⟩ := hB w1 hM1
  refine ⟨k, w1, b, w2, hA, ⟨_, hM1.obj⟩, e2, ⟨_, q2.obj⟩, q2.thr, fun y => absurd y hk, T, tw, th, sz, dp, nm, sy, sp, n, m, pt, pk, lv, pL, bi, bk, bL, Lo, Lf, Lt, rd, U, no, nf, nt, n4, n6, _, g, (hC.kT hT).kI F2, q2, hJ.up k, hR.mk ?_ ?_⟩
  · rw [F2.2.1, hT.2.1, hT.2.2]
    omega
  · rw [F2.2.1, hT.2.2]
    omega
/-- a call done on both sides -/
theorem jOk {c : Nat} {w1 : PW} {v : Int32} {A : PX} {B : PW → PX} (hC : JC w1 T' tw th sz dp nm sy sp n m pt pk lv pL bi bk bL Lo Lf Lt rd U no nf nt n4 n6) (hM : qM w1 z g) (hR : jRm w1 (no + nf + nt + n4 + n6) (c + 1)) (hA : A = (p_astJ w1 66 0 (Int32.toInt64 v)).bind fun w' => some (.inl (some (.int 0)), w')) (hB : ∀ w1, qM w1 z g → ∃ w2 z' g', B w1 = some (.inl (some (.int v)), w2) ∧ qI 37 66 w1 w2 ∧ qM w2 z' g' ∧ z' 0 = 0 ∧ JM z' g' tw th sz dp nm sy sp n m pt pk lv pL bi bk bL Lo Lf Lt U) : jC c A B := by
  obtain ⟨f, hf⟩ := hC.2.2.2.2.2.2.2.2.2.2.2
  obtain ⟨w', g1, s1, F1⟩ := o_astJ hf (Int32.toInt64 v)
  have hM' : qM w' z g := hM.keep (fun u u1 u2 => F1.2.1 u (by omega))
  obtain ⟨w2, z', g', e2, F2, q2, z0, hJ⟩ := hB w' hM'
  have hC2 := (hC.kE F1 s1).kI F2
  have hv : p_aldJ w2 66 0 = some (Int32.toInt64 v) := by
    have := q_aldJ (w := w2) (f := vp_updL f 0 (Int32.toInt64 v)) (by rw [F2.2.2 66 (by omega), s1])
    rw [this]
    rfl
  refine ⟨0, w', v, w2, by rw [hA, g1, Option.bind_some], ⟨_, hM'.obj⟩, e2, ⟨_, q2.obj⟩, by rw [q2.thr, z0], fun _ => hv, T', tw, th, sz, dp, nm, sy, sp, n, m, pt, pk, lv, pL, bi, bk, bL, Lo, Lf, Lt, rd, U, no, nf, nt, n4, n6, z', g', hC2, q2, hJ, ?_⟩
  unfold jRm at *
  rw [F2.2.1, F1.2.2]
  exact hR
/-- a call of which only the safety is wanted -/
theorem jSafe {c : Nat} {w1 : PW} {k : Int32} {A : PX} {B : PW → PX} (hC : JC w1 T tw th sz dp nm sy sp n m pt pk lv pL bi bk bL Lo Lf Lt rd U no nf nt n4 n6) (hM : qM w1 z g) (hJ : JM z g tw th sz dp nm sy sp n m pt pk lv pL bi bk bL Lo Lf Lt U) (hR : jRm w1 (no + nf + nt + n4 + n6) (c + 1)) (hA : A = some (.inl (some (.int k)), w1)) (hB : qAn w1 z g (B w1)) : jU c A B := by
  obtain ⟨w2, v, cc, e2, q2, F2⟩ := hB
  refine ⟨k, w1, v, w2, hA, ⟨_, hM.obj⟩, e2, T, tw, th, sz, dp, nm, sy, sp, n, m, pt, pk, lv, pL, bi, bk, bL, Lo, Lf, Lt, rd, U, no, nf, nt, n4, n6, _, g, hC.kI F2, q2, hJ.up cc, ?_⟩
  unfold jRm at *
  rw [F2.2.1]
  exact hR
end
theorem q_within_v (what : Int32) (v : Int64) : q_within what v = 0 ∨ q_within what v = 1 := by
  unfold q_within
  split
  · exact Or.inl rfl
  · split
    · exact Or.inl rfl
    · split
      · exact Or.inl rfl
      · split
        · exact Or.inl rfl
        · exact Or.inr rfl
theorem q_alc_v (n : Nat) (i b : Int32) : q_alc n i b = 0 ∨ q_alc n i b = 1 ∨ q_alc n i b = 2 := by
  unfold q_alc
  split
  · exact Or.inr (Or.inl rfl)
  · split
    · exact Or.inr (Or.inr rfl)
    · exact Or.inl rfl
theorem q_psc_v (a b : Nat) (i n : Int32) : q_psc a b i n = 0 ∨ q_psc a b i n = 1 ∨ q_psc a b i n = 2 ∨ q_psc a b i n = 3 := by
  unfold q_psc
  split
  · exact Or.inr (Or.inl rfl)
  · split
    · exact Or.inr (Or.inr (Or.inl rfl))
    · split
      · exact Or.inr (Or.inr (Or.inr rfl))
      · exact Or.inl rfl
section
variable {c : Nat} {w w' : PW} {T T' : Nat → Nat} {tw th : Int32} {sz dp nm sy sp : Nat → Int32} {n m : Nat} {pt : Nat → Int32} {pk : Nat → Nat} {lv : Nat → Nat → Nat} {pL : Nat → List Int32} {bi bk : Nat → Int32} {bL : Nat → List Int32} {Lo Lf Lt L' : List Int32} {rd : Int32} {U : List (Nat × Nat)} {no nf nt n4 n6 n' : Nat} {z z' : Nat → Int32} {g g' : Nat → Nat → Int32}
theorem jB.mv {a r r' k k' : Nat} {L : List Int32} {f f' : Nat → Int32} (ha : a < 66) (hb : qB w a r 20000 k L f) (hr : r = a + 1 ∨ 67 ≤ r) (ht : 67 ≤ r → T r = a) (F : qF (fun x => x = a ∨ x = r) w w') (hb' : qB w' a r' 20000 k' L' f') (hr' : r' = r ∨ w.1.length ≤ r') (hlen : 67 ≤ w.1.length) : ∃ T', qDf (fun x => x = a ∨ x = a + 1) (fun t => t = a) T T' w w' ∧ jB w' T' a L' k' := by
  refine ⟨fun x => if w.1.length ≤ x then a else T x, ⟨F.1, fun x hx h1 h2 => q_keepF F hx ?_, fun x hx => if_neg (by omega)⟩, r', f', hb', ?_, fun y => ?_⟩
  · rintro (e | e)
    · exact h1 (by omega) (Or.inl e)
    · rcases hr with q | q
      · exact h1 (by omega) (Or.inr (by omega))
      · exact h2 (by omega) (by rw [e]; exact ht q)
  · rcases hr' with e | e
    · rw [e]; exact hr
    · exact Or.inr (by omega)
  · dsimp only
    rcases hr' with e | e
    · rw [e]
      rw [if_neg (by have := q_lt_len hb.d; omega)]
      rw [e] at y
      exact ht y
    · rw [if_pos e]
theorem JC.b12 (h : JC w T tw th sz dp nm sy sp n m pt pk lv pL bi bk bL Lo Lf Lt rd U no nf nt n4 n6) (D : qDf (fun x => x = 12 ∨ x = 12 + 1) (fun t => t = 12) T T' w w') (hb : jB w' T' 12 L' n') : JC w' T' tw th sz dp nm sy sp n m pt pk lv pL bi bk bL Lo L' Lt rd U no n' nt n4 n6 := by
  obtain ⟨h1, h2, h3, h4, h5, h6, h7, h8, h9, h10, h11, f, h12⟩ := h
  exact ⟨Nat.le_trans h1 D.1, D.ats h2 (Or.inl (by omega)), h3, D.ats h4 (Or.inl (by omega)), h5.keep (fun x a b => D.at (by omega) (Or.inl (by omega))), h6.kp D (by omega) (by omega) (fun _ _ _ => by omega), h7.kp D (by omega) (by omega) (fun _ _ _ => by omega), h8.kp D (by omega) (by omega) (by omega) (by omega), hb, h10.kp D (by omega) (by omega) (by omega) (by omega), h11.kp D (fun x a b => by omega) (by omega) (by omega), f, D.ats h12 (Or.inl (by omega))⟩
theorem JC.b10 (h : JC w T tw th sz dp nm sy sp n m pt pk lv pL bi bk bL Lo Lf Lt rd U no nf nt n4 n6) (D : qDf (fun x => x = 10 ∨ x = 10 + 1) (fun t => t = 10) T T' w w') (hb : jB w' T' 10 L' n') : JC w' T' tw th sz dp nm sy sp n m pt pk lv pL bi bk bL L' Lf Lt rd U n' nf nt n4 n6 := by
  obtain ⟨h1, h2, h3, h4, h5, h6, h7, h8, h9, h10, h11, f, h12⟩ := h
  exact ⟨Nat.le_trans h1 D.1, D.ats h2 (Or.inl (by omega)), h3, D.ats h4 (Or.inl (by omega)), h5.keep (fun x a b => D.at (by omega) (Or.inl (by omega))), h6.kp D (by omega) (by omega) (fun _ _ _ => by omega), h7.kp D (by omega) (by omega) (fun _ _ _ => by omega), hb, h9.kp D (by omega) (by omega) (by omega) (by omega), h10.kp D (by omega) (by omega) (by omega) (by omega), h11.kp D (fun x a b => by omega) (by omega) (by omega), f, D.ats h12 (Or.inl (by omega))⟩
/-- the reference's rows of fed bytes change -/
theorem JM.f53 (h : JM z g tw th sz dp nm sy sp n m pt pk lv pL bi bk bL Lo Lf Lt U) (hz : ∀ u, u ≠ 0 → u ≠ 22 → z' u = z u) (hg : ∀ u, u ≠ 53 → g' u = g u) (h22 : z' 22 = Int32.ofNat L'.length) (hy : qY g' 53 L') : JM z' g' tw th sz dp nm sy sp n m pt pk lv pL bi bk bL Lo L' Lt U := by
  obtain ⟨⟨h1, h1'⟩, ⟨h2, h2', h2''⟩, ⟨h3, h3'⟩, ⟨h4, h4'⟩, h5, ⟨h6, h6'⟩, h7, h8, h8'⟩ := h
  refine ⟨⟨h1.kg (fun r a b => hg r (by omega)), h1'⟩, ⟨by rw [hz 8 (by decide) (by decide), h2], h2', h2''.kg (fun r a b => hg r (by omega))⟩, ⟨by rw [hz 14 (by decide) (by decide), h3], h3'.kg (fun r a b => hg r (by omega))⟩, ⟨by rw [hz 20 (by decide) (by decide), h4], h4'.kg (hg 52 (by decide))⟩, ⟨h22, hy⟩, ⟨h6.kg (fun r a => hg r (by omega)) (fun i _ => by rw [hg 42 (by decide)]) ⟨hz 25 (by decide) (by decide), hz 27 (by decide) (by decide), hz 30 (by decide) (by decide)⟩, h6'⟩, fun j => by rw [hg 39 (by decide), hg 40 (by decide)]; exact h7 j, by rw [hz 1 (by decide) (by decide), h8], by rw [hz 2 (by decide) (by decide), h8']⟩
theorem jB.nn {a k : Nat} {L : List Int32} (h : jB w T a L k) : k ≤ 20000 ∧ L.length ≤ 20000 := by
  obtain ⟨r, f, hb, -⟩ := h
  exact ⟨hb.2.2.2.2.2.2.1, hb.2.2.2.1⟩
theorem st_set (h : J c w) (what t cc v : Int32) : jC c (fL_set 0 what t cc v 66 w) (fD_set 37 what t cc v) := by
  obtain ⟨T, tw, th, sz, dp, nm, sy, sp, n, m, pt, pk, lv, pL, bi, bk, bL, Lo, Lf, Lt, rd, U, no, nf, nt, n4, n6, z, g, hC, hM, hJ, hR⟩ := h
  have hC0 := hC
  obtain ⟨c1, ho, hrd, h9, hS, hP, hX, hbo, hbf, hbt, hr, f66, h66⟩ := hC
  obtain ⟨⟨j1, j1'⟩, ⟨j2, j2', j2''⟩, ⟨j3, j3'⟩, ⟨j4, j4'⟩, ⟨j5, j5'⟩, ⟨j6, j6'⟩, j7, j8, j8'⟩ := hJ
  have hJ : JM z g tw th sz dp nm sy sp n m pt pk lv pL bi bk bL Lo Lf Lt U := ⟨⟨j1, j1'⟩, ⟨j2, j2', j2''⟩, ⟨j3, j3'⟩, ⟨j4, j4'⟩, ⟨j5, j5'⟩, ⟨j6, j6'⟩, j7, j8, j8'⟩
  obtain ⟨e, P, hl, hn, -, -⟩ := hP
  obtain ⟨m7, l7, -⟩ := hl
  have hW := q_Wset ho hS l7 j1 what t cc v
  have eb : decide (¬ Int32.ofNat P.length = 0) = decide (0 < z 8) := by
    rw [j2, hn]
    have : Int32.ofNat n = 0 ↔ n = 0 := q_of32 (y := 0) (by omega) (by omega)
    have e2 : (0 : Int32) < Int32.ofNat n ↔ 0 < n := q_lt (m := 0) (by omega) (by omega)
    by_cases h0 : n = 0
    · subst h0; decide
    · rw [decide_eq_true (show ¬ Int32.ofNat n = 0 from fun y => h0 (this.mp y)), decide_eq_true (e2.mpr (by omega))]
  rw [eb] at hW
  obtain ⟨y01, p01⟩ := st_y01 hS
  have hB : ∀ w1, qM w1 z g → ∃ w2 b, fD_set 37 what t cc v w1 = some (.inl (some (.int b)), w2) ∧ qI 37 66 w1 w2 ∧ ∃ g', qM w2 (upd z 0 (q_sc tw th sz sy sp (decide (0 < z 8)) what t cc v)) g' ∧ (¬ q_sc tw th sz sy sp (decide (0 < z 8)) what t cc v = 0 → g' = g) ∧ (q_sc tw th sz sy sp (decide (0 < z 8)) what t cc v = 0 → b = q_val sz dp nm sy sp what t cc ∧ qR tw th (s_sz sz what v) (s_dp dp what cc v) (s_nm nm sy sp what t cc v) (s_sy sy what t cc) (s_sp sp what t cc) g' ∧ gW g g') := fun w1 q1 => by
    obtain ⟨w2, g2, b, e2, q2, F2, n2, t2⟩ := q1.set j1 y01 p01 what t cc v
    exact ⟨w2, b, e2, F2, g2, q2, n2, t2⟩
  unfold fL_set
  rw [q_obj ho, Option.bind_some]
  have thr : ∀ (w1 : PW) (k : Int32) (A : PX), k ≠ 0 → q_sc tw th sz sy sp (decide (0 < z 8)) what t cc v = k → qT w w1 → A = some (.inl (some (.int k)), w1) → jC c A (fD_set 37 what t cc v) := fun w1 k A hk hs hT hA => jThr rfl hC0 hM hJ hR hT hk hA (fun w1 q1 => by
    obtain ⟨w2, b, e2, F2, g2, q2, n2, -⟩ := hB w1 q1
    rw [hs] at q2
    rw [n2 (by rw [hs]; exact hk)] at q2
    exact ⟨w2, b, e2, F2, q2⟩)
  rcases q_sc_v tw th sz sy sp (decide (0 < z 8)) what t cc v with hc | hc | hc | hc
  · obtain ⟨w1, e1, s1, F1⟩ := hW.2.2.2 hc
    have D : qDf (fun x => 1 ≤ x ∧ x < 7) (fun _ => False) T T w w1 := ⟨by rw [F1.1]; exact Nat.le_refl _, fun x hx a b => F1.2.2 x (by by_cases h67 : x < 67; have := a h67; omega; omega), fun _ _ => rfl⟩
    have hC1 : JC w1 T tw th (s_sz sz what v) (s_dp dp what cc v) (s_nm nm sy sp what t cc v) (s_sy sy what t cc) (s_sp sp what t cc) n m pt pk lv pL bi bk bL Lo Lf Lt rd U no nf nt n4 n6 := by
      obtain ⟨h1, h2, h3, h4, h5, h6, h7, h8, h9, h10, h11, f, h12⟩ := hC0
      exact ⟨Nat.le_trans h1 D.1, D.ats h2 (Or.inl (by omega)), h3, D.ats h4 (Or.inl (by omega)), s1, h6.kp D (by omega) id (fun _ _ _ => id), h7.kp D (by omega) id (fun _ _ _ => id), h8.kp D (by omega) (by omega) (by omega) id, h9.kp D (by omega) (by omega) (by omega) id, h10.kp D (by omega) (by omega) (by omega) id, h11.kp D (fun x a b => by omega) id id, f, D.ats h12 (Or.inl (by omega))⟩
    refine jOk hC1 (hM.keep (fun x a b => F1.2.2 x (by omega))) (hR.mk (by rw [F1.2.1]; omega) (by rw [F1.2.1]; omega)) (v := q_val sz dp nm sy sp what t cc) (by rw [e1]; rfl) (fun w1 q1 => ?_)
    obtain ⟨w2, b, e2, F2, g2, q2, -, t2⟩ := hB w1 q1
    obtain ⟨t3, t4, t5, t6, t7⟩ := t2 hc
    rw [hc] at q2
    rw [t3] at e2
    refine ⟨w2, _, g2, e2, F2, q2, rfl, ⟨t4, fun i hi => ?_⟩, ⟨j2, j2', j2''.kg (fun r a b => t5 r (by omega) (by omega) (by omega) (by omega) (by omega))⟩, ⟨j3, j3'.kg (fun r a b => t5 r (by omega) (by omega) (by omega) (by omega) (by omega))⟩, ⟨j4, j4'.kg (t5 52 (by decide) (by decide) (by decide) (by decide) (by decide))⟩, ⟨j5, j5'.kg (t5 53 (by decide) (by decide) (by decide) (by decide) (by decide))⟩, ⟨j6.kg (fun r a => t5 r (by omega) (by omega) (by omega) (by omega) (by omega)) t6 ⟨rfl, rfl, rfl⟩, j6'⟩, t7 j7, j8, j8'⟩
    unfold s_dp
    by_cases h3 : what = 3
    · rw [if_pos h3, q_dep_at cc v i 4 0 dp (by omega)]
      split
      · have hw : q_within what (Int32.toInt64 v) = 1 := by
          rcases q_within_v what (Int32.toInt64 v) with q | q
          · exfalso
            unfold q_sc at hc
            by_cases a1 : q_isPl (q_nt tw th sz) (sz 2) what t cc = false
            · rw [if_pos a1] at hc; exact absurd hc (by decide)
            · rw [if_neg a1] at hc
              by_cases a2 : what ≤ 2 ∧ (decide (0 < z 8) = true ∨ ¬ q_any sy sp 124 1 = 0)
              · rw [if_pos a2] at hc; exact absurd hc (by decide)
              · rw [if_neg a2, if_pos (Or.inl q)] at hc; exact absurd hc (by decide)
          · exact q
        have hb := (q_within_b hw).1
        rw [h3] at hb
        have e3 : (pz_tab 0 (3 : Int32).toNatClampNeg).toInt = 1 := by decide
        omega
      · exact j1' i hi
    · rw [if_neg h3]
      exact j1' i hi
  · obtain ⟨w1, e1, T1⟩ := hW.1 hc
    exact thr w1 1 _ (by decide) hc T1 (by rw [e1, lw_x1])
  · obtain ⟨w1, e1, T1⟩ := hW.2.1 hc
    exact thr w1 2 _ (by decide) hc T1 (by rw [e1, lw_x2 (by decide), lw_x1])
  · obtain ⟨w1, e1, T1⟩ := hW.2.2.1 hc
    exact thr w1 3 _ (by decide) hc T1 (by rw [e1, lw_x2 (by decide), lw_x2 (by decide), lw_x1])
theorem st_feed (h : J c w) (b : Int32) : jC c (fL_feed 0 b 66 w) (fD_feed 37 b) := by
  obtain ⟨T, tw, th, sz, dp, nm, sy, sp, n, m, pt, pk, lv, pL, bi, bk, bL, Lo, Lf, Lt, rd, U, no, nf, nt, n4, n6, z, g, hC, hM, hJ, hR⟩ := h
  have hnn := hC.2.2.2.2.2.2.2.2.1.nn
  obtain ⟨r, f, hb, hr, ht⟩ := hC.2.2.2.2.2.2.2.2.1
  have ho := hC.2.1
  have h22 := hJ.2.2.2.2.1
  have hW := qW_feed ho hb (by omega) b
  unfold fL_feed
  rw [q_obj ho, Option.bind_some]
  have thr : ∀ (w1 : PW) (k : Int32) (A : PX), k ≠ 0 → q_fdc Lf.length b = k → qT w w1 → A = some (.inl (some (.int k)), w1) → jC c A (fD_feed 37 b) := fun w1 k A hk hs hT hA => jThr rfl hC hM hJ hR hT hk hA (fun w1 q1 => by
    obtain ⟨w2, v, e2, F2, t2, -⟩ := q1.feed Lf.length h22.1 hnn.2 b
    have := t2 (by rw [hs]; exact hk)
    rw [hs] at this
    exact ⟨w2, v, e2, F2, this⟩)
  rcases q_fdc_v Lf.length b with hc | hc | hc
  · obtain ⟨w1, r', n', f', e1, b1, F1, hr', hn', hs'⟩ := hW.2.2 hc
    obtain ⟨T', D, hB1⟩ := jB.mv (T := T) (by omega) hb hr ht F1 b1 hr' hC.1
    refine jOk (hC.b12 D hB1) (hM.keep (fun x a b => D.at (by have := hC.1; omega) (Or.inl (by omega)))) (hR.mk F1.2.2 (by omega)) (v := Int32.ofNat (Lf.length + 1)) (by rw [e1]; rfl) (fun w1 q1 => ?_)
    obtain ⟨w2, v, e2, F2, -, t2⟩ := q1.feed Lf.length h22.1 hnn.2 b
    obtain ⟨t3, t4⟩ := t2 hc
    rw [t3] at e2
    exact ⟨w2, _, _, e2, F2, t4, rfl, hJ.f53 (fun u a b => by unfold upd; rw [if_neg b, if_neg a]) (fun u a => ug_ne _ _ _ a) (by rw [List.length_append]; rfl) (h22.2.snoc b)⟩
  · obtain ⟨w1, e1, T1⟩ := hW.1 hc
    exact thr w1 1 _ (by decide) hc T1 (by rw [e1, lw_x1])
  · obtain ⟨w1, e1, T1⟩ := hW.2.1 hc
    exact thr w1 2 _ (by decide) hc T1 (by rw [e1, lw_x2 (by decide), lw_x1])
theorem st_cut (h : J c w) (k : Int32) : jC c (fL_cut 0 k 66 w) (fD_cut 37 k) := by
  obtain ⟨T, tw, th, sz, dp, nm, sy, sp, n, m, pt, pk, lv, pL, bi, bk, bL, Lo, Lf, Lt, rd, U, no, nf, nt, n4, n6, z, g, hC, hM, hJ, hR⟩ := h
  have hnn := hC.2.2.2.2.2.2.2.2.1.nn
  obtain ⟨r, f, hb, hr, ht⟩ := hC.2.2.2.2.2.2.2.2.1
  have ho := hC.2.1
  have h22 := hJ.2.2.2.2.1
  have hW := qW_cut ho hb (by omega) k
  unfold fL_cut
  rw [q_obj ho, Option.bind_some]
  by_cases hk : k < 0
  · obtain ⟨w1, e1, T1⟩ := hW.1 hk
    refine jThr rfl hC hM hJ hR T1 (k := 1) (by decide) (by rw [e1, lw_x1]) (fun w1 q1 => ?_)
    obtain ⟨w2, v, e2, F2, t2, -⟩ := q1.cut Lf.length h22.1 hnn.2 k
    exact ⟨w2, v, e2, F2, t2 hk⟩
  · obtain ⟨w1, e1, b1, F1⟩ := hW.2 hk
    obtain ⟨T', D, hB1⟩ := jB.mv (T := T) (by omega) hb hr ht (F1.fr.mono (fun x _ e => Or.inl e)) b1 (Or.inl rfl) hC.1
    refine jOk (hC.b12 D hB1) (hM.keep (fun x a b => F1.2.1 x (by omega))) (hR.mk (by rw [F1.2.2]; omega) (by rw [F1.2.2]; omega)) (v := Int32.ofNat (min k.toInt.toNat Lf.length)) (by rw [e1]; rfl) (fun w1 q1 => ?_)
    obtain ⟨w2, v, e2, F2, -, t2⟩ := q1.cut Lf.length h22.1 hnn.2 k
    obtain ⟨t3, t4⟩ := t2 hk
    rw [t3] at e2
    refine ⟨w2, _, g, e2, F2, t4, rfl, hJ.f53 (fun u a b => by unfold upd; rw [if_neg b, if_neg a]) (fun u a => rfl) ?_ ?_⟩
    · rw [List.length_take]; rfl
    · intro i hi
      rw [List.length_take] at hi
      rw [h22.2 i (by omega), List.getElem_take]
theorem st_alter (h : J c w) (i b : Int32) : jC c (fL_alter 0 i b 66 w) (fD_alter 37 i b) := by
  obtain ⟨T, tw, th, sz, dp, nm, sy, sp, n, m, pt, pk, lv, pL, bi, bk, bL, Lo, Lf, Lt, rd, U, no, nf, nt, n4, n6, z, g, hC, hM, hJ, hR⟩ := h
  have hnn := hC.2.2.2.2.2.2.2.2.1.nn
  obtain ⟨r, f, hb, hr, ht⟩ := hC.2.2.2.2.2.2.2.2.1
  have ho := hC.2.1
  have h22 := hJ.2.2.2.2.1
  have hW := qW_alter ho hb (by omega) i b
  unfold fL_alter
  rw [q_obj ho, Option.bind_some]
  have thr : ∀ (w1 : PW) (k : Int32) (A : PX), k ≠ 0 → q_alc Lf.length i b = k → qT w w1 → A = some (.inl (some (.int k)), w1) → jC c A (fD_alter 37 i b) := fun w1 k A hk hs hT hA => jThr rfl hC hM hJ hR hT hk hA (fun w1 q1 => by
    obtain ⟨w2, v, e2, F2, t2, -⟩ := q1.alter Lf.length h22.1 hnn.2 i b
    have := t2 (by rw [hs]; exact hk)
    rw [hs] at this
    exact ⟨w2, v, e2, F2, this⟩)
  rcases q_alc_v Lf.length i b with hc | hc | hc
  · obtain ⟨w1, f', v, hv, e1, b1, F1⟩ := hW.2.2 hc
    obtain ⟨T', D, hB1⟩ := jB.mv (T := T) (by omega) hb hr ht (F1.fr.mono (fun x _ e => Or.inr e)) b1 (Or.inl rfl) hC.1
    refine jOk (hC.b12 D hB1) (hM.keep (fun x a b => F1.2.1 x (by omega))) (hR.mk (by rw [F1.2.2]; omega) (by rw [F1.2.2]; omega)) (v := v) (by rw [e1]; rfl) (fun w1 q1 => ?_)
    obtain ⟨w2, v', e2, F2, -, t2⟩ := q1.alter Lf.length h22.1 hnn.2 i b
    obtain ⟨t3, t4⟩ := t2 hc
    obtain ⟨hi, hv2⟩ := List.getElem?_eq_some_iff.mp hv
    rw [t3, h22.2 _ hi, hv2] at e2
    refine ⟨w2, _, _, e2, F2, t4, rfl, hJ.f53 (fun u a b => by unfold upd; rw [if_neg a]) (fun u a => ug_ne _ _ _ a) ?_ ?_⟩
    · rw [List.length_set]
      exact h22.1
    · intro j hj
      rw [List.length_set] at hj
      rw [ug_self, List.getElem_set]
      unfold upd
      by_cases e : j = i.toInt.toNat
      · rw [if_pos e, if_pos e.symm]
      · rw [if_neg e, if_neg (fun y => e y.symm)]
        exact h22.2 j hj
  · obtain ⟨w1, e1, T1⟩ := hW.1 hc
    exact thr w1 1 _ (by decide) hc T1 (by rw [e1, lw_x1])
  · obtain ⟨w1, e1, T1⟩ := hW.2.1 hc
    exact thr w1 2 _ (by decide) hc T1 (by rw [e1, lw_x2 (by decide), lw_x1])
end
theorem s_find_len (L : List Int32) (hl : L.length ≤ 20000) : (s_find L).2.2.1.length ≤ 2600 := by
  unfold s_find
  by_cases h1 : 2 ≤ L.length ∧ nb L 0 = 255 ∧ nb L 1 = 79
  · rw [if_pos h1]
    exact Nat.zero_le _
  · rw [if_neg h1]
    by_cases h2 : 12 ≤ L.length ∧ nb4 L 0 = 12 ∧ nb4 L 4 = 1783636000 ∧ nb4 L 8 = 218793738
    · rw [if_pos h2]
      have := s_bx_len L L.length 2600 12 (-1) [] (by simp) h2.1
      omega
    · rw [if_neg h2]
      exact Nat.zero_le _
section
variable {c : Nat} {w w' : PW} {T T' : Nat → Nat} {tw th : Int32} {sz dp nm sy sp : Nat → Int32} {n m : Nat} {pt : Nat → Int32} {pk : Nat → Nat} {lv : Nat → Nat → Nat} {pL : Nat → List Int32} {bi bk : Nat → Int32} {bL : Nat → List Int32} {Lo Lf Lt L' : List Int32} {rd : Int32} {U : List (Nat × Nat)} {no nf nt n4 n6 n' : Nat} {z z' : Nat → Int32} {g g' : Nat → Nat → Int32}
theorem st_pass (h : J c w) (i k : Int32) : jC c (fL_pass 0 i k 66 w) (fD_pass 37 i k) := by
  obtain ⟨T, tw, th, sz, dp, nm, sy, sp, n, m, pt, pk, lv, pL, bi, bk, bL, Lo, Lf, Lt, rd, U, no, nf, nt, n4, n6, z, g, hC, hM, hJ, hR⟩ := h
  have hnn := hC.2.2.2.2.2.2.2.2.1.nn
  have hno := hC.2.2.2.2.2.2.2.1.nn
  obtain ⟨r, f, hb, hr, ht⟩ := hC.2.2.2.2.2.2.2.2.1
  obtain ⟨ro, fo, hbo, hro, hto⟩ := hC.2.2.2.2.2.2.2.1
  have ho := hC.2.1
  have h20 := hJ.2.2.2.1
  have h22 := hJ.2.2.2.2.1
  have hne : ro ≠ 12 ∧ ro ≠ r ∧ r ≠ 0 ∧ r ≠ 9 ∧ r ≠ 10 := by
    refine ⟨by omega, fun e => ?_, by omega, by omega, by omega⟩
    rcases hro with q | q <;> rcases hr with p | p <;> first | omega | (have q1 := hto q; have q2 := ht p; rw [e] at q1; omega)
  have hW := qW_pass ho hC.2.2.2.1 hbo hb hne i k
  unfold fL_pass
  rw [q_obj ho, Option.bind_some]
  have thr : ∀ (w1 : PW) (x : Int32) (A : PX), x ≠ 0 → q_psc Lo.length Lf.length i k = x → qT w w1 → A = some (.inl (some (.int x)), w1) → jC c A (fD_pass 37 i k) := fun w1 x A hk hs hT hA => jThr rfl hC hM hJ hR hT hk hA (fun w1 q1 => by
    obtain ⟨w2, v, z2, g2, e2, q2, F2, -, t2, -⟩ := q1.pass h20.2 hno.2 h20.1 h22.2 h22.1 hnn.2 i k
    obtain ⟨t3, t4⟩ := t2 (by rw [hs]; exact hk)
    rw [hs] at t3
    rw [t3, t4] at q2
    exact ⟨w2, v, e2, F2, q2⟩)
  rcases q_psc_v Lo.length Lf.length i k with hc | hc | hc | hc
  · obtain ⟨w1, e1, r', n', f', b1, F1, hr', hn', hs'⟩ := hW.2.2.2 hc
    obtain ⟨T', D, hB1⟩ := jB.mv (T := T) (by omega) hb hr ht F1 b1 hr' hC.1
    refine jOk (hC.b12 D hB1) (hM.keep (fun x a b => D.at (by have := hC.1; omega) (Or.inl (by omega)))) (hR.mk F1.2.2 (by omega)) (v := Int32.ofNat (q_many2 Lo.length i k)) (by rw [e1]; rfl) (fun w1 q1 => ?_)
    obtain ⟨w2, v, z2, g2, e2, q2, F2, t0, -, t2⟩ := q1.pass h20.2 hno.2 h20.1 h22.2 h22.1 hnn.2 i k
    obtain ⟨t3, t4, t5, t6, t7⟩ := t2 hc
    rw [t3] at e2
    exact ⟨w2, z2, g2, e2, F2, q2, by rw [t0, hc], hJ.f53 t4 t5 t6 t7⟩
  · obtain ⟨w1, e1, T1⟩ := hW.1 hc
    exact thr w1 1 _ (by decide) hc T1 (by rw [e1, lw_x1])
  · obtain ⟨w1, e1, T1⟩ := hW.2.1 hc
    exact thr w1 2 _ (by decide) hc T1 (by rw [e1, lw_x2 (by decide), lw_x1])
  · obtain ⟨w1, e1, T1⟩ := hW.2.2.1 hc
    exact thr w1 3 _ (by decide) hc T1 (by rw [e1, lw_x2 (by decide), lw_x2 (by decide), lw_x1])
theorem st_byteAt (h : J c w) (i : Int32) : jC c (fL_byteAt 0 i 66 w) (fD_byteAt 37 i) := by
  obtain ⟨T, tw, th, sz, dp, nm, sy, sp, n, m, pt, pk, lv, pL, bi, bk, bL, Lo, Lf, Lt, rd, U, no, nf, nt, n4, n6, z, g, hC, hM, hJ, hR⟩ := h
  have hno := hC.2.2.2.2.2.2.2.1.nn
  obtain ⟨ro, fo, hbo, hro, hto⟩ := hC.2.2.2.2.2.2.2.1
  have ho := hC.2.1
  have h20 := hJ.2.2.2.1
  unfold fL_byteAt
  rw [q_obj ho, Option.bind_some]
  by_cases hi : 0 ≤ i.toInt ∧ i.toInt < Lo.length
  · have e1 := qW_byteAt0 ho hC.2.2.2.1 hbo i hi.1 hi.2
    refine jOk hC hM (hR.mk (by omega) (by omega)) (v := Lo[i.toInt.toNat]'(by omega)) (by rw [e1]; rfl) (fun w1 q1 => ?_)
    obtain ⟨w2, e2, q2, F2⟩ := q1.byteAt0 Lo.length h20.1 (by omega) i hi.1 hi.2
    rw [h20.2 _ (by omega)] at e2
    exact ⟨w2, _, g, e2, F2, q2, rfl, hJ.up 0⟩
  · obtain ⟨w1, e1, T1⟩ := qW_byteAt1 ho hC.2.2.2.1 hbo i hi
    refine jThr rfl hC hM hJ hR T1 (k := 1) (by decide) (by rw [e1, lw_x1]) (fun w1 q1 => ?_)
    obtain ⟨w2, e2, q2, F2⟩ := q1.byteAt1 Lo.length h20.1 (by omega) i hi
    exact ⟨w2, 0, e2, F2, q2⟩
/-- a call that changes nothing of the class, and of which only safety is wanted -/
theorem jAs.go {E : List String} {r : PX} {B : PW → PX} {H : List (String × (PW → PX))} (hC : JC w T tw th sz dp nm sy sp n m pt pk lv pL bi bk bL Lo Lf Lt rd U no nf nt n4 n6) (hM : qM w z g) (hJ : JM z g tw th sz dp nm sy sp n m pt pk lv pL bi bk bL Lo Lf Lt U) (hR : jRm w (no + nf + nt + n4 + n6) c) (hA : jAs w E r) (hH : ∀ e w1, e ∈ E → ∃ k, p_callX (some (.inr e, w1)) (p_kI fun v9 w9 => (p_astJ w9 66 (0 : Int32) (Int32.toInt64 v9)).bind fun w13 => some (.inl (some (.int (0 : Int32))), w13)) H = some (.inl (some (.int k)), w1)) (hB : ∀ w1, qM w1 z g → qAn w1 z g (B w1)) : jU c (p_callX r (p_kI fun v9 w9 => (p_astJ w9 66 (0 : Int32) (Int32.toInt64 v9)).bind fun w13 => some (.inl (some (.int (0 : Int32))), w13)) H) B := by
  rcases hA with ⟨v, e⟩ | ⟨e, w1, he, e1, T1⟩
  · obtain ⟨f, hf⟩ := hC.2.2.2.2.2.2.2.2.2.2.2
    obtain ⟨w', g1, s1, F1⟩ := o_astJ hf (Int32.toInt64 v)
    have hM' : qM w' z g := hM.keep (fun u u1 u2 => F1.2.1 u (by omega))
    refine jSafe (hC.kE F1 s1) hM' hJ (hR.mk (by rw [F1.2.2]; omega) (by rw [F1.2.2]; omega)) (k := 0) ?_ (hB w' hM')
    rw [e]
    show (p_astJ w 66 0 (Int32.toInt64 v)).bind _ = _
    rw [g1, Option.bind_some]
  · obtain ⟨k, hk⟩ := hH e w1 he
    rw [e1]
    exact jSafe (hC.kT T1) (T1.M hM) hJ (hR.mk (by rw [T1.2.1, T1.2.2]; omega) (by rw [T1.2.2]; omega)) hk (hB w1 (T1.M hM))
theorem st_at (h : J c w) (what t cc : Int32) : jU c (fL_at 0 what t cc 66 w) (fD_at 37 what t cc) := by
  obtain ⟨T, tw, th, sz, dp, nm, sy, sp, n, m, pt, pk, lv, pL, bi, bk, bL, Lo, Lf, Lt, rd, U, no, nf, nt, n4, n6, z, g, hC, hM, hJ, hR⟩ := h
  have ho := hC.2.1
  unfold fL_at
  rw [q_obj ho, Option.bind_some]
  refine jAs.go hC hM hJ hR (jW_at ho hC.2.2.1 hC.2.2.2.2.2.2.2.2.2.2.1 what t cc) (fun e w1 he => ?_) (fun w1 q1 => q1.at hJ.2.2.2.2.2.2.1 hJ.2.2.2.2.2.1.1 what t cc)
  rcases List.mem_cons.mp he with e1 | e1
  · exact ⟨1, by rw [e1, lw_x1]⟩
  · rw [List.mem_singleton] at e1
    exact ⟨2, by rw [e1, lw_x2 (by decide), lw_x1]⟩
theorem st_part (h : J c w) (i what : Int32) : jU c (fL_part 0 i what 66 w) (fD_part 37 i what) := by
  obtain ⟨T, tw, th, sz, dp, nm, sy, sp, n, m, pt, pk, lv, pL, bi, bk, bL, Lo, Lf, Lt, rd, U, no, nf, nt, n4, n6, z, g, hC, hM, hJ, hR⟩ := h
  have ho := hC.2.1
  unfold fL_part
  rw [q_obj ho, Option.bind_some]
  refine jAs.go hC hM hJ hR (jW_part ho hC.2.2.2.2.2.2.2.2.2.2.1 i what) (fun e w1 he => ?_) (fun w1 q1 => q1.part hJ.2.2.2.2.2.1.1 i what)
  rcases List.mem_cons.mp he with e1 | e1
  · exact ⟨1, by rw [e1, lw_x1]⟩
  · rw [List.mem_singleton] at e1
    exact ⟨2, by rw [e1, lw_x2 (by decide), lw_x1]⟩
theorem st_partByte (h : J c w) (i b : Int32) : jU c (fL_partByte 0 i b 66 w) (fD_partByte 37 i b) := by
  obtain ⟨T, tw, th, sz, dp, nm, sy, sp, n, m, pt, pk, lv, pL, bi, bk, bL, Lo, Lf, Lt, rd, U, no, nf, nt, n4, n6, z, g, hC, hM, hJ, hR⟩ := h
  have ho := hC.2.1
  unfold fL_partByte
  rw [q_obj ho, Option.bind_some]
  refine jAs.go hC hM hJ hR (jW_partByte ho hC.2.2.2.2.2.2.2.2.2.1 hC.2.2.2.2.2.2.2.2.2.2.1 i b) (fun e w1 he => ?_) (fun w1 q1 => q1.partByte hJ.2.2.2.2.2.1.1 i b)
  rcases List.mem_cons.mp he with e1 | e1
  · exact ⟨1, by rw [e1, lw_x1]⟩
  · rw [List.mem_singleton] at e1
    exact ⟨2, by rw [e1, lw_x2 (by decide), lw_x1]⟩
theorem st_told (h : J c w) (what : Int32) : (∃ fs, p_obj w 0 0 = some fs) ∧ jU c (fW_told 0 what w) (fD_told 37 what) := by
  obtain ⟨T, tw, th, sz, dp, nm, sy, sp, n, m, pt, pk, lv, pL, bi, bk, bL, Lo, Lf, Lt, rd, U, no, nf, nt, n4, n6, z, g, hC, hM, hJ, hR⟩ := h
  have ho := hC.2.1
  obtain ⟨e7, P, h7, -⟩ := hC.2.2.2.2.2.1
  obtain ⟨e8, Q, h8, -⟩ := hC.2.2.2.2.2.2.1
  obtain ⟨ro, fo, hbo, -⟩ := hC.2.2.2.2.2.2.2.1
  obtain ⟨rf, ff, hbf, -⟩ := hC.2.2.2.2.2.2.2.2.1
  obtain ⟨v, ev⟩ := jW_told ho hC.2.2.2.2.1 h7 h8 hC.2.2.2.1 hbo hbf hC.2.2.2.2.2.2.2.2.2.2.1 what
  exact ⟨⟨_, q_obj ho⟩, jSafe hC hM hJ (hR.mk (by omega) (by omega)) ev (hM.told hJ.1.1 hJ.2.2.2.2.2.1.1 what)⟩
theorem u_c_v (U : List (Nat × Nat)) (k what : Int32) : u_c U k what = 0 ∨ u_c U k what = 1 := by
  unfold u_c
  split
  · exact Or.inr rfl
  · split
    · exact Or.inr rfl
    · split
      · exact Or.inr rfl
      · exact Or.inl rfl
theorem st_unknown (h : J c w) (k what : Int32) : jC c (fL_unknown 0 k what 66 w) (fD_unknown 37 k what) := by
  obtain ⟨T, tw, th, sz, dp, nm, sy, sp, n, m, pt, pk, lv, pL, bi, bk, bL, Lo, Lf, Lt, rd, U, no, nf, nt, n4, n6, z, g, hC, hM, hJ, hR⟩ := h
  have ho := hC.2.1
  have hbt := hC.2.2.2.2.2.2.2.2.2.1
  have hnt := hbt.nn
  have hby : qby Lt := by obtain ⟨r, f, hb, -⟩ := hbt; exact hb.by
  have hU := hJ.2.2.2.2.2.1
  have hW := jW_unknown ho hbt hC.2.2.2.2.2.2.2.2.2.2.1 hU.2.1 k what
  unfold fL_unknown
  rw [q_obj ho, Option.bind_some]
  rcases u_c_v U k what with hc | hc
  · have e1 := hW.2 hc
    refine jOk hC hM (hR.mk (by omega) (by omega)) (v := u_v Lt U k what) (by rw [e1]; rfl) (fun w1 q1 => ?_)
    obtain ⟨w2, v, e2, q2, F2, t2⟩ := q1.unknown hU.1 hby hnt.2 hU.2.1 hU.2.2 k what
    rw [hc] at q2
    rw [t2 hc] at e2
    exact ⟨w2, _, g, e2, F2, q2, rfl, hJ.up 0⟩
  · obtain ⟨w1, e1, T1⟩ := hW.1 hc
    refine jThr rfl hC hM hJ hR T1 (k := 1) (by decide) (by rw [e1, lw_x1]) (fun w1 q1 => ?_)
    obtain ⟨w2, v, e2, q2, F2, -⟩ := q1.unknown hU.1 hby hnt.2 hU.2.1 hU.2.2 k what
    rw [hc] at q2
    exact ⟨w2, v, e2, F2, q2⟩
theorem st_read (h : J c w) : (∃ fs, p_obj w 0 0 = some fs) ∧ jV c (fW_read 0 w) (fD_read 37) := by
  obtain ⟨T, tw, th, sz, dp, nm, sy, sp, n, m, pt, pk, lv, pL, bi, bk, bL, Lo, Lf, Lt, rd, U, no, nf, nt, n4, n6, z, g, hC, hM, hJ, hR⟩ := h
  have hC0 := hC
  obtain ⟨h1, h2, h3, h4, h5, h6, h7, h8, h9, h10, h11, f, h12⟩ := hC
  obtain ⟨⟨j1, j1'⟩, ⟨j2, j2', j2''⟩, ⟨j3, j3'⟩, ⟨j4, j4'⟩, ⟨j5, j5'⟩, ⟨j6, j6'⟩, j7, j8, j8'⟩ := hJ
  have hby : qby Lf := by obtain ⟨r, f, hb, -⟩ := h9; exact hb.by
  have hnn := h9.nn
  obtain ⟨w1, T1, nt1, n41, n61, rd1, e1, o1, d1, B1, R1, D, s1, s2⟩ := jW_read h1 h2 h9 h10 h11
  have hM1 : qM w1 z g := hM.keep (fun x a b => D.at (by omega) (Or.inl (by omega)))
  have hC1 : JC w1 T1 tw th sz dp nm sy sp n m pt pk lv pL bi bk bL Lo Lf Lf rd1 (s_find Lf).2.2.1 no nf nt1 n41 n61 := ⟨Nat.le_trans h1 D.1, o1, d1, D.ats h4 (Or.inl (by omega)), h5.keep (fun x a b => D.at (by omega) (Or.inl (by omega))), h6.kp D (by omega) (by omega) (fun _ _ _ => by omega), h7.kp D (by omega) (by omega) (fun _ _ _ => by omega), h8.kp D (by omega) (by omega) (by omega) (by omega), h9.kp D (by omega) (by omega) (by omega) (by omega), B1, R1, f, D.ats h12 (Or.inl (by omega))⟩
  obtain ⟨w2, z2, g2, e2, q2, F2, t1, t2, t3, t4⟩ := hM1.read j5' j5 hby hnn.2
  have u0 := s_find_ok Lf
  refine ⟨⟨_, q_obj h2⟩, s_read Lf, w1, w2, e1, ⟨_, hM1.obj⟩, e2, T1, tw, th, sz, dp, nm, sy, sp, n, m, pt, pk, lv, pL, bi, bk, bL, Lo, Lf, Lf, rd1, (s_find Lf).2.2.1, no, nf, nt1, n41, n61, z2, g2, hC1.kI F2, q2, ⟨⟨?_, j1'⟩, ⟨?_, j2', j2''.kg (fun r a b => t3.1 r (by omega) (by omega))⟩, ⟨?_, j3'.kg (fun r a b => t3.1 r (by omega) (by omega))⟩, ⟨?_, j4'.kg (t3.1 52 (by omega) (by omega))⟩, ⟨?_, j5'.kg (t3.1 53 (by omega) (by omega))⟩, ⟨t4, u0.1, ?_⟩, t3.2.2.2.2.2 j7, ?_, ?_⟩, ?_⟩
  · obtain ⟨a1, a2, a3, a4, a5, a6⟩ := j1
    refine ⟨?_, fun i hi => by rw [t3.2.2.2.1 i hi]; exact a2 i hi, fun s hs => by rw [(t3.2.2.1 s hs).1, (t3.2.2.1 s hs).2]; exact a3 s hs, fun s k hs k4 k10 => by rw [t3.2.1 _ (by omega)]; exact a4 s k hs k4 k10, a5, a6⟩
    rw [t3.2.2.2.2.1 0 (by omega), t3.2.2.2.2.1 1 (by omega), t3.2.2.2.2.1 2 (by omega), t3.2.2.2.2.1 3 (by omega), t3.2.2.2.2.1 4 (by omega)]
    exact a1
  · rw [t1 8 (by decide) (by decide) (by decide) (by decide) (by decide) (by decide) (by decide) (by decide) (by decide) (by decide), j2]
  · rw [t1 14 (by decide) (by decide) (by decide) (by decide) (by decide) (by decide) (by decide) (by decide) (by decide) (by decide), j3]
  · rw [t1 20 (by decide) (by decide) (by decide) (by decide) (by decide) (by decide) (by decide) (by decide) (by decide) (by decide), j4]
  · rw [t1 22 (by decide) (by decide) (by decide) (by decide) (by decide) (by decide) (by decide) (by decide) (by decide) (by decide), j5]
  · have hR4 := R1
    obtain ⟨tr, hr', szr, dpr, nmr, syr, spr, co, fr, en, pa, he, r4, r6, f4, f6, ml, ct, hs', hR', -⟩ := hR4
    have u1 := u0.2.2
    exact s_find_len Lf hnn.2
  · rw [t1 1 (by decide) (by decide) (by decide) (by decide) (by decide) (by decide) (by decide) (by decide) (by decide) (by decide), j8]
  · rw [t1 2 (by decide) (by decide) (by decide) (by decide) (by decide) (by decide) (by decide) (by decide) (by decide) (by decide), j8']
  · refine hR.mk ?_ ?_
    · rw [F2.2.1]; exact s1
    · rw [F2.2.1]; omega
end
