/-- the reader of parts -/
def rT (k : Nat) : Nat := if k = 34 then 2 else 0
def rL (k : Nat) : Nat := if k = 35 then 24 else if k = 36 then 200 else 300
def qPr (w : PW) (lc cnt : Int32) (pa : Nat → Nat → Int32) : Prop := w.1[28]? = some (.inr (6, [.ref 14, .ref 16, .ref 27, .ref 29, .ref 30, .ref 31, .ref 32, .ref 33, .ref 34, .ref 35, .ref 36, .int lc, .int cnt])) ∧ ∀ k, 29 ≤ k → k < 37 → w.1[k]? = some (.inl (rT k, rL k, .inl (pa k)))
section
variable {w : PW} {rd lc cnt : Int32} {pa : Nat → Nat → Int32} {r n : Nat} {L : List Int32} {f : Nat → Int32} {tw th : Int32} {sz dp nm sy sp : Nat → Int32} {z : Nat → Int32} {g : Nat → Nat → Int32}
theorem qPr.fg7 : ∀ (k i F : Nat) (w : PW) (pa : Nat → Nat → Int32), qPr w lc cnt pa → k < F → i + k = 24 → ∃ w' pa', fPartReader_forget_7 F 28 (Int32.ofNat i) w = some (.inl none, w') ∧ qPr w' lc cnt pa' ∧ qI 28 37 w w'
  | 0, i, F + 1, w, pa, h, _, hi => by
    have : i = 24 := by omega
    subst this
    rw [fPartReader_forget_7, if_pos (by decide)]
    exact ⟨w, pa, rfl, h, qI.rf⟩
  | k + 1, i, F + 1, w, pa, h, hF, hi => by
    rw [fPartReader_forget_7, if_neg (fun hh => by have := (q_le (m := 24) (n := i) (by omega) (by omega)).mp hh; omega), q_getR (k := 9) h.1 rfl, Option.bind_some]
    obtain ⟨w1, g1, s1, F1⟩ := o_ast (h.2 35 (by omega) (by omega)) (q_ge0 i (by omega)) (show Int32.ofNat i < Int32.ofNat (rL 35) from (q_lt (m := i) (n := 24) (by omega) (by omega)).mpr (by omega)) (by decide) 0
    rw [show p_ast w 35 0 (Int32.ofNat i) 0 = _ from g1, Option.bind_some, q_let, show Int32.ofNat i + 1 = Int32.ofNat (i + 1) from (Int32.ofNat_add i 1).symm]
    have h1 : qPr w1 lc cnt (ug pa 35 (Int32.ofNat i).toNatClampNeg 0) := by
      refine ⟨F1.at h.1 (by omega), fun j h1 h2 => ?_⟩
      by_cases e : j = 35
      · subst e
        rw [s1, ug_self]
      · rw [F1.at (h.2 j h1 h2) e, ug_ne _ _ _ e]
    obtain ⟨w2, pa', g2, q2, F2⟩ := qPr.fg7 k (i + 1) F w1 _ h1 (by omega) (by omega)
    exact ⟨w2, pa', g2, q2, (F1.i (by omega) (by omega)).tr F2⟩
theorem qPr.forget (h : qPr w lc cnt pa) : ∃ w' pa', fPartReader_forget 28 w = some (.inl none, w') ∧ qPr w' lc 0 pa' ∧ qI 28 37 w w' := by
  unfold fPartReader_forget
  obtain ⟨w1, g1, s1, F1⟩ := o_put (k := 12) h.1 (by simp) (.int 0)
  rw [g1, Option.bind_some]
  have h1 : qPr w1 lc 0 pa := ⟨s1, fun j h1 h2 => F1.at (h.2 j h1 h2) (by omega)⟩
  obtain ⟨w2, pa', g2, q2, F2⟩ := qPr.fg7 24 0 FUEL w1 pa h1 (by decide) (by omega)
  exact ⟨w2, pa', g2, q2, (F1.i (by omega) (by omega)).tr F2⟩
theorem qN.zero {a : Nat} (h : qN w a r n L f) : ∃ w', p_put w a 5 1 (.int 0) = some w' ∧ qN w' a r n [] f ∧ qE a w w' := by
  have hne := h.ne
  obtain ⟨ho, hd, h1, h2, h3⟩ := h
  obtain ⟨w1, g1, s1, F1⟩ := o_put (k := 1) ho (by simp) (.int 0)
  exact ⟨w1, g1, ⟨s1, F1.at hd hne.symm, by simp, h2, fun i hi => absurd hi (Nat.not_lt_zero i)⟩, F1⟩
theorem qN.keep {a : Nat} {w' : PW} (h : qN w a r n L f) (h1 : w'.1[a]? = w.1[a]?) (h2 : w'.1[r]? = w.1[r]?) : qN w' a r n L f := ⟨by rw [h1, h.1], by rw [h2, h.2.1], h.2.2⟩
/-- the class's readers at the world w: r4, r6 the rows of numbers -/
def qRd (w : PW) (co fr en lc cnt : Int32) (pa : Nat → Nat → Int32) (he : Int32) (r4 n4 r6 n6 : Nat) (L4 L6 : List Int32) (f4 f6 : Nat → Int32) : Prop :=
  w.1[22]? = some (.inr (1, [.ref 14, .ref 23, .ref 25, .int co, .int fr, .int en])) ∧ qN w 23 r4 n4 L4 f4 ∧ qN w 25 r6 n6 L6 f6 ∧ w.1[27]? = some (.inr (3, [.ref 14, .ref 16, .int he])) ∧ qPr w lc cnt pa ∧ (r4 = 24 ∨ 67 ≤ r4) ∧ (r6 = 26 ∨ 67 ≤ r6) ∧ r4 ≠ r6
theorem qRd.keep {w' : PW} {co fr en lc cnt : Int32} {pa : Nat → Nat → Int32} {he : Int32} {r4 n4 r6 n6 : Nat} {L4 L6 : List Int32} {f4 f6 : Nat → Int32} (h : qRd w co fr en lc cnt pa he r4 n4 r6 n6 L4 L6 f4 f6) (hk : ∀ x, ((22 ≤ x ∧ x < 37) ∨ x = r4 ∨ x = r6) → w'.1[x]? = w.1[x]?) : qRd w' co fr en lc cnt pa he r4 n4 r6 n6 L4 L6 f4 f6 := by
  obtain ⟨h1, h2, h3, h4, h5, h6⟩ := h
  refine ⟨by rw [hk 22 (by omega), h1], h2.keep (hk 23 (by omega)) (hk r4 (Or.inr (Or.inl rfl))), h3.keep (hk 25 (by omega)) (hk r6 (Or.inr (Or.inr rfl))), by rw [hk 27 (by omega), h4], ⟨by rw [hk 28 (by omega), h5.1], fun k k1 k2 => by rw [hk k (by omega), h5.2 k k1 k2]⟩, h6⟩
theorem qW_forgetReading {co fr en : Int32} {he : Int32} {r4 n4 r6 n6 : Nat} {L4 L6 : List Int32} {f4 f6 : Nat → Int32} {tr hr : Int32} {szr dpr nmr syr spr : Nat → Int32} (ho : qCo w rd) (hR : qRd w co fr en lc cnt pa he r4 n4 r6 n6 L4 L6 f4 f6) (hs : qS w 16 tr hr szr dpr nmr syr spr) :
    ∃ w' pa' syr' spr', fW_forgetReading 0 w = some (.inl none, w') ∧ qCo w' 0 ∧ qRd w' (-1) fr en lc 0 pa' he r4 n4 r6 n6 [] [] f4 f6 ∧ qS w' 16 tr hr szr dpr nmr syr' spr' ∧ (∀ x, x ≠ 0 → (x < 16 ∨ 37 ≤ x) → w'.1[x]? = w.1[x]?) ∧ w'.2 = w.2 ∧ w'.1.length = w.1.length := by
  obtain ⟨h22, hn4, hn6, h27, hpr, hr4, hr6, hne⟩ := hR
  unfold fW_forgetReading
  rw [if_neg (not_not_intro (Or.inl rfl))]
  obtain ⟨w1, g1, s1, F1⟩ := o_put (k := 10) ho (by simp) (.int 0)
  have s1' : qCo w1 0 := s1
  have h22a := F1.at h22 (by decide)
  rw [g1, Option.bind_some, q_getR (k := 7) s1' rfl, Option.bind_some, q_obj h22a, Option.bind_some]
  unfold fBoxReader_forget
  have hn4a : qN w1 23 r4 n4 L4 f4 := hn4.keep (F1.2.1 _ (by decide)) (F1.2.1 _ (by omega))
  have hn6a : qN w1 25 r6 n6 L6 f6 := hn6.keep (F1.2.1 _ (by decide)) (F1.2.1 _ (by omega))
  obtain ⟨w2, g2, q2, F2⟩ := hn4a.zero
  have h22b := F2.at h22a (by decide)
  rw [q_getR (k := 1) h22a rfl, Option.bind_some, g2, Option.bind_some, q_getR (k := 2) h22b rfl, Option.bind_some]
  have hn6b : qN w2 25 r6 n6 L6 f6 := hn6a.keep (F2.2.1 _ (by decide)) (F2.2.1 _ (by omega))
  obtain ⟨w3, g3, q3, F3⟩ := hn6b.zero
  have h22c := F3.at h22b (by decide)
  rw [g3, Option.bind_some]
  obtain ⟨w4, g4, s4, F4⟩ := o_put (k := 3) h22c (by simp) (.int (-1))
  rw [g4, Option.bind_some, q_call, q_kV]
  have o4 : qCo w4 0 := F4.at (F3.at (F2.at s1' (by decide)) (by decide)) (by decide)
  have keep4 : ∀ x, x ≠ 0 → x ≠ 22 → x ≠ 23 → x ≠ 25 → w4.1[x]? = w.1[x]? := fun x a1 a2 a3 a4 => by rw [F4.2.1 x a2, F3.2.1 x a4, F2.2.1 x a3, F1.2.1 x a1]
  have hs4 : qS w4 16 tr hr szr dpr nmr syr spr := hs.keep (fun x a b => keep4 x (by omega) (by omega) (by omega) (by omega))
  obtain ⟨fs, so⟩ := hs4.obj
  rw [q_getR (k := 6) o4 rfl, Option.bind_some, so, Option.bind_some]
  obtain ⟨w5, g5, hs5, F5⟩ := hs4.forgetSegments
  rw [g5, q_call, q_kV]
  have o5 : qCo w5 0 := F5.at o4 (by omega)
  have hpr5 : qPr w5 lc cnt pa := ⟨by rw [F5.2.2 28 (by omega), keep4 28 (by decide) (by decide) (by decide) (by decide), hpr.1], fun k k1 k2 => by rw [F5.2.2 k (by omega), keep4 k (by omega) (by omega) (by omega) (by omega), hpr.2 k k1 k2]⟩
  rw [q_getR (k := 9) o5 rfl, Option.bind_some, q_obj hpr5.1, Option.bind_some]
  obtain ⟨w6, pa', g6, hp6, F6⟩ := hpr5.forget
  rw [g6, q_call, q_kV]
  have keep6 : ∀ x, (x < 16 ∨ 22 ≤ x) → (x < 28 ∨ 37 ≤ x) → w6.1[x]? = w4.1[x]? := fun x a1 a2 => by rw [F6.2.2 x a2, F5.2.2 x (by omega)]
  refine ⟨w6, pa', _, _, rfl, F6.at o5 (by omega), ⟨?_, ?_, ?_, ?_, hp6, hr4, hr6, hne⟩, hs5.keep (fun x a b => F6.2.2 x (by omega)), fun x a1 a2 => ?_, ?_, ?_⟩
  · rw [keep6 22 (by omega) (by omega), s4]
    rfl
  · refine (q2.keep ?_ ?_)
    · rw [keep6 23 (by omega) (by omega), F4.2.1 23 (by decide), F3.2.1 23 (by decide)]
    · rw [keep6 r4 (by omega) (by omega), F4.2.1 r4 (by omega), F3.2.1 r4 (by omega)]
  · refine (q3.keep ?_ ?_)
    · rw [keep6 25 (by omega) (by omega), F4.2.1 25 (by decide)]
    · rw [keep6 r6 (by omega) (by omega), F4.2.1 r6 (by omega)]
  · rw [keep6 27 (by omega) (by omega), keep4 27 (by decide) (by decide) (by decide) (by decide), h27]
  · rw [keep6 x (by omega) (by omega), keep4 x a1 (by omega) (by omega) (by omega)]
  · rw [F6.2.1, F5.2.1, F4.2.2, F3.2.2, F2.2.2, F1.2.2]
  · rw [F6.1, F5.1, F4.1, F3.1, F2.1, F1.1]
/-- a read with nothing fed -/
theorem qW_read0 {co fr en : Int32} {he : Int32} {r4 n4 r6 n6 : Nat} {L4 L6 : List Int32} {f4 f6 : Nat → Int32} {tr hr : Int32} {szr dpr nmr syr spr : Nat → Int32} {rf nf rt nt : Nat} {Lt : List Int32} {ff ft : Nat → Int32} (ho : qCo w rd) (hR : qRd w co fr en lc cnt pa he r4 n4 r6 n6 L4 L6 f4 f6) (hs : qS w 16 tr hr szr dpr nmr syr spr) (hf : qB w 12 rf 20000 nf [] ff) (ht : qB w 14 rt 20000 nt Lt ft) (hrf : rf = 13 ∨ 67 ≤ rf) (hrt : rt = 15 ∨ 67 ≤ rt) (hft : rt ≠ rf) (ht4 : rt ≠ r4) (ht6 : rt ≠ r6) :
    ∃ w', fW_read 0 w = some (.inl (some (.int (-1))), w') ∧ (∀ x, x < w.1.length → x ≠ 0 → x ≠ rt → (x < 14 ∨ 37 ≤ x) → w'.1[x]? = w.1[x]?) ∧ w.1.length ≤ w'.1.length ∧ w'.2.1 + w.2.2 ≤ w.2.1 + w'.2.2 ∧ w'.2.2 ≤ w.2.2 + 140000 := by
  unfold fW_read
  rw [q_obj ho, Option.bind_some]
  obtain ⟨w1, pa', syr', spr', g1, o1, R1, s1, K1, c1, l1⟩ := qW_forgetReading ho hR hs
  rw [g1, q_call, q_kV, q_getR (k := 5) o1 rfl, Option.bind_some, q_getR (k := 4) o1 rfl, Option.bind_some]
  have hf1 : qB w1 12 rf 20000 nf [] ff := hf.keep (K1 12 (by decide) (by omega)) (K1 rf (by omega) (by omega))
  have ht1 : qB w1 14 rt 20000 nt Lt ft := ht.keep (K1 14 (by decide) (by omega)) (K1 rt (by omega) (by omega))
  rw [q_obj ht1.o, Option.bind_some]
  obtain ⟨w2, r2, n2, g, g2, b2, F2, e2, m2, k2⟩ := ht1.copy hf1 (by decide) hft
  rw [g2, q_call, q_kV]
  have kp : ∀ x, x < w1.1.length → x ≠ 14 → x ≠ rt → w2.1[x]? = w1.1[x]? := fun x a b c => q_keepF F2 a (by rintro (h | h); exact b h; exact c h)
  have l36 : 36 < w1.1.length := q_lt_len (R1.2.2.2.2.1.2 36 (by omega) (by omega))
  have o2 : qCo w2 0 := by
    unfold qCo
    rw [kp 0 (by omega) (by decide) (by omega)]
    exact o1
  have h22 : w2.1[22]? = some (.inr (1, [.ref 14, .ref 23, .ref 25, .int (-1), .int fr, .int en])) := by rw [kp 22 (by omega) (by decide) (by omega), R1.1]
  rw [q_getR (k := 7) o2 rfl, Option.bind_some, q_obj h22, Option.bind_some]
  unfold fBoxReader_findStream
  obtain ⟨w3, g3, s3, F3⟩ := o_put (k := 4) h22 (by simp) (.int 0)
  have r2ne : r2 ≠ 22 := by
    rcases e2 with e | e <;> omega
  have b3 : qB w3 14 r2 20000 n2 [] g := b2.keep (F3.2.1 14 (by decide)) (F3.2.1 r2 r2ne)
  rw [g3, Option.bind_some, q_getR (k := 0) s3 rfl, Option.bind_some, q_getI (k := 2) b3.o rfl, Option.bind_some]
  obtain ⟨w4, g4, s4, F4⟩ := o_put (k := 5) s3 (by simp) (.int (Int32.ofNat ([] : List Int32).length))
  have b4' : qB w4 14 r2 20000 n2 [] g := b3.keep (F4.2.1 14 (by decide)) (F4.2.1 r2 r2ne)
  rw [g4, Option.bind_some, q_getR (k := 0) s4 rfl, Option.bind_some, q_obj b4'.o, Option.bind_some, b4'.get 0, q_call, q_kI]
  rw [if_pos (by decide)]
  unfold fBoxReader_findStream_45 fBoxReader_beginsWithSignature
  rw [q_obj s4, Option.bind_some, q_getR (k := 0) s4 rfl, Option.bind_some, q_getI (k := 2) b4'.o rfl, Option.bind_some, if_pos (by decide), q_ret0, q_call, q_kI, if_pos rfl, q_call, q_kI, if_pos (by decide)]
  unfold fW_read_50
  rw [if_neg (by decide)]
  have c2 : w4.2 = w2.2 := by rw [F4.2.2, F3.2.2]
  have n20 := b2.2.2.2.2.2.2.1
  refine ⟨w4, rfl, fun x a b c d => ?_, ?_, ?_, ?_⟩
  · rw [F4.2.1 x (by omega), F3.2.1 x (by omega), kp x (by omega) (by omega) c, K1 x b (by omega)]
  · rw [F4.1, F3.1]
    have := F2.1
    omega
  · have := F2.2.2
    rw [c1] at this
    rw [c2]
    omega
  · rw [c2]
    rw [c1] at k2
    omega
/-- told, with nothing read -/
def q_told0 (nt : Int32) (n1 n2 n3 n4 n6 : Nat) (what : Int32) : Int32 := if what = 0 then nt else if what = 1 then Int32.ofNat n1 else if what = 2 then Int32.ofNat n2 else if what = 3 then Int32.ofNat n3 else if what = 4 then Int32.ofNat n4 else if what = 5 then 0 else if what = 6 then Int32.ofNat n6 else if what = 7 then 0 else if what = 8 then 0 else -1
theorem qW_told0 {e7 e8 : Value} {P Q : List Nat} {ro no : Nat} {Lo : List Int32} {fo : Nat → Int32} {rf nf : Nat} {Lf : List Int32} {ff : Nat → Int32} {co fr en : Int32} {he : Int32} {r4 n4 r6 n6 : Nat} {L4 L6 : List Int32} {f4 f6 : Nat → Int32} (ho : qCo w rd) (hs : qS w 1 tw th sz dp nm sy sp) (h7 : qL w 7 e7 P) (h8 : qL w 8 e8 Q) (h9 : w.1[9]? = some (.inr (9, [.ref 10]))) (hb : qB w 10 ro 20000 no Lo fo) (hf : qB w 12 rf 20000 nf Lf ff) (hR : qRd w co fr en lc 0 pa he r4 n4 r6 n6 L4 L6 f4 f6) (what : Int32) :
    fW_told 0 what w = some (.inl (some (.int (q_told0 (q_many (sz 0) tw * q_many (sz 1) th) P.length Q.length Lo.length Lf.length L4.length what))), w) := by
  obtain ⟨fs, so⟩ := hs.obj
  obtain ⟨f7, o7⟩ := h7.obj
  obtain ⟨f8, o8⟩ := h8.obj
  unfold fW_told q_told0
  by_cases h0 : what = 0
  · rw [if_pos h0, if_pos h0, q_getR (k := 0) ho rfl, Option.bind_some, so, Option.bind_some, hs.tiles, q_call, q_kI]
  · rw [if_neg h0, if_neg h0]
    by_cases h1 : what = 1
    · rw [if_pos h1, if_pos h1, q_getR (k := 1) ho rfl, Option.bind_some, o7, Option.bind_some, h7.size, q_call, q_kI]
    · rw [if_neg h1, if_neg h1]
      by_cases h2 : what = 2
      · rw [if_pos h2, if_pos h2, q_getR (k := 2) ho rfl, Option.bind_some, o8, Option.bind_some, h8.size, q_call, q_kI]
      · rw [if_neg h2, if_neg h2]
        by_cases h3 : what = 3
        · rw [if_pos h3, if_pos h3, q_getR (k := 3) ho rfl, Option.bind_some, q_getR (k := 0) h9 rfl, Option.bind_some, q_getI (k := 2) hb.o rfl, Option.bind_some]
        · rw [if_neg h3, if_neg h3]
          by_cases h4 : what = 4
          · rw [if_pos h4, if_pos h4, q_getR (k := 4) ho rfl, Option.bind_some, q_getI (k := 2) hf.o rfl, Option.bind_some]
          · rw [if_neg h4, if_neg h4]
            by_cases h5 : what = 5
            · rw [if_pos h5, if_pos h5, q_getR (k := 9) ho rfl, Option.bind_some, q_getI (k := 12) hR.2.2.2.2.1.1 rfl, Option.bind_some]
            · rw [if_neg h5, if_neg h5]
              by_cases h6 : what = 6
              · rw [if_pos h6, if_pos h6, q_getR (k := 7) ho rfl, Option.bind_some, q_getR (k := 1) hR.1 rfl, Option.bind_some, q_getI (k := 1) hR.2.1.1 rfl, Option.bind_some]
              · rw [if_neg h6, if_neg h6]
                by_cases h7' : what = 7
                · rw [if_pos h7', if_pos h7', q_getR (k := 9) ho rfl, Option.bind_some, q_obj hR.2.2.2.2.1.1, Option.bind_some]
                  unfold fPartReader_spoiltOnes
                  rw [show FUEL = 999999 + 1 from rfl, fPartReader_spoiltOnes_4, q_getI (k := 12) hR.2.2.2.2.1.1 rfl, Option.bind_some, if_pos (by decide), q_call, q_kI]
                · rw [if_neg h7', if_neg h7']
                  by_cases h8' : what = 8
                  · rw [if_pos h8', if_pos h8', q_getR (k := 9) ho rfl, Option.bind_some, q_obj hR.2.2.2.2.1.1, Option.bind_some]
                    unfold fPartReader_wholePackets
                    rw [show FUEL = 999999 + 1 from rfl, fPartReader_wholePackets_4, q_getI (k := 12) hR.2.2.2.2.1.1 rfl, Option.bind_some, if_pos (by decide), q_call, q_kI]
                  · rw [if_neg h8', if_neg h8']
theorem qM.told0 (h : qM w z g) (k : qR tw th sz dp nm sy sp g) {n1 n2 n3 n4 n6 : Nat} (z8 : z 8 = Int32.ofNat n1) (z14 : z 14 = Int32.ofNat n2) (z20 : z 20 = Int32.ofNat n3) (z22 : z 22 = Int32.ofNat n4) (z27 : z 27 = Int32.ofNat n6) (z25 : z 25 = 0) (what : Int32) :
    ∃ w', fD_told 37 what w = some (.inl (some (.int (q_told0 (q_many (sz 0) tw * q_many (sz 1) th) n1 n2 n3 n4 n6 what))), w') ∧ qM w' (upd z 0 0) g ∧ qI 37 66 w w' := by
  unfold fD_told
  obtain ⟨w1, g1, q1, F1⟩ := h.put 0 0 (by omega) rfl
  refine ⟨w1, ?_, q1, F1⟩
  have e62 : fD_told_62 37 what 0 0 w1 = some (.inl (some (.int (q_told0 (q_many (sz 0) tw * q_many (sz 1) th) n1 n2 n3 n4 n6 what))), w1) := by
    unfold fD_told_62 q_told0
    by_cases h0 : what = 0
    · rw [if_pos h0, if_pos h0, q1.obj, Option.bind_some, q1.tiles k, q_call, q_kI]
    · rw [if_neg h0, if_neg h0]
      by_cases h1 : what = 1
      · rw [if_pos h1, if_pos h1, q1.I 8 rfl, Option.bind_some, show upd z 0 0 8 = _ from z8]
      · rw [if_neg h1, if_neg h1]
        by_cases h2 : what = 2
        · rw [if_pos h2, if_pos h2, q1.I 14 rfl, Option.bind_some, show upd z 0 0 14 = _ from z14]
        · rw [if_neg h2, if_neg h2]
          by_cases h3 : what = 3
          · rw [if_pos h3, if_pos h3, q1.I 20 rfl, Option.bind_some, show upd z 0 0 20 = _ from z20]
          · rw [if_neg h3, if_neg h3]
            by_cases h4 : what = 4
            · rw [if_pos h4, if_pos h4, q1.I 22 rfl, Option.bind_some, show upd z 0 0 22 = _ from z22]
            · rw [if_neg h4, if_neg h4]
              by_cases h5 : what = 5
              · rw [if_pos h5, if_pos h5, q1.I 25 rfl, Option.bind_some, show upd z 0 0 25 = _ from z25, if_pos rfl]
              · rw [if_neg h5, if_neg h5]
                by_cases h6 : what = 6
                · rw [if_pos h6, if_pos h6, q1.I 27 rfl, Option.bind_some, show upd z 0 0 27 = _ from z27]
                · rw [if_neg h6, if_neg h6]
                  by_cases h7 : what = 7
                  · rw [if_pos h7, if_pos h7]
                  · rw [if_neg h7, if_neg h7]
                    by_cases h8 : what = 8
                    · rw [if_pos h8, if_pos h8]
                    · rw [if_neg h8, if_neg h8]
  rw [g1, Option.bind_some, show FUEL = 999999 + 1 from rfl, fD_told_12, q1.I 30 rfl, Option.bind_some, q1.I 25 rfl, Option.bind_some, show upd z 0 0 25 = _ from z25, if_pos rfl, e62]
  split <;> rfl
/-- the reference's read, nothing fed -/
theorem qM.read0 (h : qM w z g) (z22 : z 22 = 0) : ∃ w', fD_read 37 w = some (.inl (some (.int (-1))), w') ∧ qI 37 66 w w' := by
  unfold fD_read
  obtain ⟨w1, g1, q1, F1⟩ := h.put 0 0 (by omega) rfl
  rw [g1, Option.bind_some, show FUEL = 999999 + 1 from rfl, fD_read_7, q1.I 22 rfl, Option.bind_some, show upd z 0 0 22 = _ from z22, if_pos (by decide), Option.bind_some]
  obtain ⟨w2, g2, q2, F2⟩ := q1.put 24 0 (by omega) rfl
  rw [g2, Option.bind_some, q2.obj, Option.bind_some]
  obtain ⟨w3, gg, g3, q3, -, F3⟩ := q2.begin 125 (Or.inr rfl)
  rw [show fD_begin 37 125 w2 = _ from g3, q_call, q_kV, q3.R 4 39 rfl, Option.bind_some, q_nar0]
  obtain ⟨w4, g4, q4, F4⟩ := q3.st 39 2 125 0 rfl (by omega) (by omega) (by decide) (by decide) (by decide)
  rw [g4, Option.bind_some, q4.R 5 40 rfl, Option.bind_some]
  obtain ⟨w5, g5, q5, F5⟩ := q4.st 40 2 125 0 rfl (by omega) (by omega) (by decide) (by decide) (by decide)
  rw [g5, Option.bind_some]
  obtain ⟨w6, g6, q6, F6⟩ := q5.put 26 (-1) (by omega) rfl
  rw [g6, Option.bind_some]
  obtain ⟨w7, g7, q7, F7⟩ := q6.put 27 0 (by omega) rfl
  rw [g7, Option.bind_some]
  obtain ⟨w8, g8, q8, F8⟩ := q7.put 30 0 (by omega) rfl
  rw [g8, Option.bind_some]
  obtain ⟨w9, g9, q9, F9⟩ := q8.put 41 (-1) (by omega) rfl
  rw [g9, Option.bind_some]
  obtain ⟨wA, gA, qA', FA⟩ := q9.put 39 0 (by omega) rfl
  rw [gA, Option.bind_some, qA'.I 24 rfl, Option.bind_some]
  obtain ⟨wB, gB, qB', FB⟩ := qA'.put 40 0 (by omega) rfl
  rw [show p_put wA 37 10 40 (.int (upd (upd (upd (upd (upd (upd (upd z 0 0) 24 0) 26 (-1)) 27 0) 30 0) 41 (-1)) 39 0 24)) = _ from gB, Option.bind_some]
  have e24 : p_getI wB 37 10 24 = some 0 := qB'.I 24 rfl
  have e41 : p_getI wB 37 10 41 = some (-1) := qB'.I 41 rfl
  rw [e24, Option.bind_some, qB'.obj, Option.bind_some]
  unfold fD_isMark
  rw [if_pos (by decide), q_ret0, q_call, q_kI, if_neg (not_not_intro rfl), qB'.obj, Option.bind_some]
  unfold fD_readBoxes fD_isFirstRight
  rw [qB'.obj, Option.bind_some, e24, Option.bind_some, if_pos (by decide), q_ret0, q_call, q_kI, if_neg (not_not_intro rfl), qB'.obj, Option.bind_some]
  unfold fD_fails
  rw [e41, Option.bind_some, if_neg (not_not_intro (by rfl))]
  obtain ⟨wC, gC, qC, FC⟩ := qB'.put 41 0 (by omega) rfl
  rw [gC, Option.bind_some, q_ret0, q_call, q_kI, q_ret0, q_call, q_kI, if_pos rfl]
  unfold fD_read_130
  rw [if_neg (not_not_intro (Or.inl rfl))]
  obtain ⟨wD, gD, qD, FD⟩ := qC.put 25 0 (by omega) rfl
  have f25 : p_getI wD 37 10 25 = some 0 := qD.I 25 rfl
  have f41 : p_getI wD 37 10 41 = some 0 := qD.I 41 rfl
  rw [gD, Option.bind_some, f25, Option.bind_some, if_pos rfl, f41, Option.bind_some, show (-1 : Int32) - 0 = -1 by decide]
  refine ⟨wD, rfl, ?_⟩
  exact (((((((((((F1.tr F2).tr F3).tr F4).tr F5).tr F6).tr F7).tr F8).tr F9).tr FA).tr FB).tr FC).tr FD
end
