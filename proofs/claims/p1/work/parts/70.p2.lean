theorem q_bv (a b : BitVec 32) (h : ∀ i, i < 8 → a.getLsbD i = b.getLsbD i) : a &&& 255#32 = b &&& 255#32 := by
  ext i hi
  simp only [BitVec.getElem_and]
  by_cases h8 : i < 8
  · congr 1
    have := h i h8
    rw [BitVec.getLsbD_eq_getElem hi, BitVec.getLsbD_eq_getElem hi] at this
    exact this
  · have : (255#32)[i] = false := by
      have e : ∀ j : Nat, j < 32 → 8 ≤ j → (255#32).getLsbD j = false := by decide
      exact e i hi (by omega)
    rw [this, Bool.and_false, Bool.and_false]
theorem q_ushr0 (v : Int32) : p_ushr v 0 &&& 255 = v &&& 255 := by
  apply Int32.toBitVec_inj.mp
  show (v.toBitVec >>> (0 : Nat)) &&& 255#32 = v.toBitVec &&& 255#32
  exact q_bv _ _ (fun i hi => by simp)
theorem q_f1 (v : Int32) : p_ushr (p_ushr v 16) 8 &&& 255 = p_ushr v 24 &&& 255 := by
  apply Int32.toBitVec_inj.mp
  show ((v.toBitVec >>> (16 : Nat)) >>> (8 : Nat)) &&& 255#32 = (v.toBitVec >>> (24 : Nat)) &&& 255#32
  exact q_bv _ _ (fun i hi => by simp only [BitVec.getLsbD_ushiftRight]; congr 1; omega)
theorem q_f2 (v : Int32) : p_ushr (p_ushr v 16) 0 &&& 255 = p_ushr v 16 &&& 255 := q_ushr0 _
theorem q_65535 : ∀ j : Nat, j < 16 → (65535#32).getLsbD j = true := by decide
theorem q_f3 (v : Int32) : p_ushr (v &&& 65535) 8 &&& 255 = p_ushr v 8 &&& 255 := by
  apply Int32.toBitVec_inj.mp
  show ((v.toBitVec &&& 65535#32) >>> (8 : Nat)) &&& 255#32 = (v.toBitVec >>> (8 : Nat)) &&& 255#32
  exact q_bv _ _ (fun i hi => by simp only [BitVec.getLsbD_ushiftRight, BitVec.getLsbD_and]; rw [q_65535 _ (by omega), Bool.and_true])
theorem q_f4 (v : Int32) : p_ushr (v &&& 65535) 0 &&& 255 = p_ushr v 0 &&& 255 := by
  rw [q_ushr0, q_ushr0]
  apply Int32.toBitVec_inj.mp
  show (v.toBitVec &&& 65535#32) &&& 255#32 = v.toBitVec &&& 255#32
  exact q_bv _ _ (fun i hi => by simp only [BitVec.getLsbD_and]; rw [q_65535 _ (by omega), Bool.and_true])
theorem b4_two (v : Int32) : b2 (p_ushr v 16) ++ b2 (v &&& 65535) = b4 v := by
  unfold b2 b4
  rw [q_f1, q_f2, q_f3, q_f4]
  rfl
/-- the reference writing: since w0 only its file has changed, which holds F -/
def qU (w0 : PW) (z0 : Nat → Int32) (g0 : Nat → Nat → Int32) (w : PW) (F : List Int32) : Prop := ∃ z g, qM w z g ∧ qI 37 66 w0 w ∧ (∀ k, k ≠ 20 → z k = z0 k) ∧ (∀ k, k ≠ 52 → g k = g0 k) ∧ z 20 = Int32.ofNat F.length ∧ qY g 52 F ∧ F.length ≤ 40000
section
variable {w0 w : PW} {z0 : Nat → Int32} {g0 : Nat → Nat → Int32} {F : List Int32} {tw th : Int32} {sz dp nm sy sp : Nat → Int32}
theorem qU.O (h : qU w0 z0 g0 w F) : ∃ fs, p_obj w 37 10 = some fs := by
  obtain ⟨z, g, h1, -⟩ := h
  exact ⟨_, h1.obj⟩
theorem qU.R (h : qU w0 z0 g0 w F) (k r : Nat) (hk : ∀ z, (mO z)[k]? = some (.ref r)) : p_getR w 37 10 k = some r := by
  obtain ⟨z, g, h1, -⟩ := h
  exact h1.R k r (hk z)
theorem qU.I (h : qU w0 z0 g0 w F) (k : Nat) (hk : ∀ z, (mO z)[k]? = some (.int (z k))) (h20 : k ≠ 20) : p_getI w 37 10 k = some (z0 k) := by
  obtain ⟨z, g, h1, -, h3, -⟩ := h
  rw [h1.I k (hk z), h3 k h20]
theorem qU.C (h : qU w0 z0 g0 w F) : p_getI w 37 10 20 = some (Int32.ofNat F.length) := by
  obtain ⟨z, g, h1, -, -, -, h5, -⟩ := h
  rw [h1.I 20 rfl, h5]
theorem qU.ld (h : qU w0 z0 g0 w F) (k t i : Nat) (ht : mT k = t) (h1 : 38 ≤ k) (h2 : k < 66) (hi : i < mL k) (hl : mL k ≤ 40000) (h52 : k ≠ 52) : p_ald w k t (Int32.ofNat i) = some (g0 k i) := by
  obtain ⟨z, g, k1, -, -, k4, -⟩ := h
  rw [k1.ldn k t i ht h1 h2 hi hl, k4 k h52]
theorem qU.lay (h : qU w0 z0 g0 w F) (b : Int32) (hF : F.length < 40000) : ∃ w', fD_lay 37 b w = some (.inl none, w') ∧ qU w0 z0 g0 w' (F ++ [b &&& 255]) := by
  obtain ⟨z, g, h1, h2, h3, h4, h5, h6, h7⟩ := h
  unfold fD_lay
  rw [h1.R 19 52 rfl, Option.bind_some, h1.I 20 rfl, Option.bind_some, h5]
  obtain ⟨w1, g1, q1, F1⟩ := h1.stn 52 0 F.length (b &&& 255) rfl (by omega) (by omega) (by show _ < 40000; omega) (by decide)
  rw [g1, Option.bind_some, q1.I 20 rfl, Option.bind_some, h5, show Int32.ofNat F.length + 1 = Int32.ofNat (F.length + 1) from (Int32.ofNat_add _ 1).symm]
  obtain ⟨w2, g2, q2, F2⟩ := q1.put 20 (Int32.ofNat (F.length + 1)) (by omega) rfl
  rw [g2, Option.bind_some]
  refine ⟨w2, rfl, _, _, q2, (h2.tr F1).tr F2, fun k hk => ?_, fun k hk => by rw [ug_ne _ _ _ hk, h4 k hk], ?_, h6.snoc _, by simp; omega⟩
  · rw [← h3 k hk]
    unfold upd
    rw [if_neg hk]
  · show Int32.ofNat (F.length + 1) = _
    rw [List.length_append]
    rfl
theorem qU.layTwo (h : qU w0 z0 g0 w F) (v : Int32) (hF : F.length + 2 ≤ 40000) : ∃ w', fD_layTwo 37 v w = some (.inl none, w') ∧ qU w0 z0 g0 w' (F ++ b2 v) := by
  unfold fD_layTwo
  obtain ⟨f0, o0⟩ := h.O
  rw [o0, Option.bind_some]
  obtain ⟨w1, g1, h1⟩ := h.lay (p_ishr v 8) (by omega)
  obtain ⟨f1, o1⟩ := h1.O
  rw [g1, q_call, q_kV, o1, Option.bind_some]
  obtain ⟨w2, g2, h2⟩ := h1.lay v (by simp; omega)
  rw [g2, q_call, q_kV]
  refine ⟨w2, rfl, ?_⟩
  rw [List.append_assoc, q_shr v 8 (Or.inr (Or.inl rfl)), ← q_ushr0 v] at h2
  exact h2
theorem qU.layFour (h : qU w0 z0 g0 w F) (v : Int32) (hF : F.length + 4 ≤ 40000) : ∃ w', fD_layFour 37 v w = some (.inl none, w') ∧ qU w0 z0 g0 w' (F ++ b4 v) := by
  unfold fD_layFour
  obtain ⟨f0, o0⟩ := h.O
  rw [o0, Option.bind_some]
  obtain ⟨w1, g1, h1⟩ := h.layTwo (p_ushr v 16) (by omega)
  obtain ⟨f1, o1⟩ := h1.O
  rw [g1, q_call, q_kV, o1, Option.bind_some]
  obtain ⟨w2, g2, h2⟩ := h1.layTwo (v &&& 65535) (by simp [b2_len]; omega)
  rw [g2, q_call, q_kV]
  refine ⟨w2, rfl, ?_⟩
  rw [List.append_assoc, b4_two] at h2
  exact h2
theorem qU.layMark (h : qU w0 z0 g0 w F) (m n : Int32) (hF : F.length + 4 ≤ 40000) : ∃ w', fD_layMark 37 m n w = some (.inl none, w') ∧ qU w0 z0 g0 w' (F ++ ([255, m &&& 255] ++ b2 n)) := by
  unfold fD_layMark
  obtain ⟨f0, o0⟩ := h.O
  rw [o0, Option.bind_some]
  obtain ⟨w1, g1, h1⟩ := h.lay 255 (by omega)
  obtain ⟨f1, o1⟩ := h1.O
  rw [g1, q_call, q_kV, o1, Option.bind_some]
  obtain ⟨w2, g2, h2⟩ := h1.lay m (by simp; omega)
  obtain ⟨f2, o2⟩ := h2.O
  rw [g2, q_call, q_kV, o2, Option.bind_some]
  obtain ⟨w3, g3, h3⟩ := h2.layTwo n (by simp; omega)
  rw [g3, q_call, q_kV]
  refine ⟨w3, rfl, ?_⟩
  simp only [List.append_assoc] at h3
  exact h3
theorem qU.get (h : qU w0 z0 g0 w F) (pl what : Int32) (p0 : 0 ≤ pl.toInt) (p1 : pl.toInt < 250) (w0' : 0 ≤ what.toInt) (w1 : what.toInt ≤ 10) : fD_get 37 pl what w = some (.inl (some (.int (g0 38 (11 * pl.toInt.toNat + what.toInt.toNat)))), w) := by
  obtain ⟨z, g, h1, -, -, h4, -⟩ := h
  rw [h1.mget pl what (q_lei.mpr p0) (by rw [q_lti]; show _ < (250 : Int); omega) (by rw [q_lei]; show (0 : Int) ≤ _; omega) (by rw [q_lei]; show _ ≤ (10 : Int); omega), h4 38 (by decide), q_i11 p0 p1 w0' w1]
/-- a segment that is there is in force -/
theorem q_fc_own {f : Nat → Int32} {t c : Int32} (h : ¬ f (q_slot t c).toNatClampNeg = 0) : q_fc f t c = q_slot t c := by
  unfold q_fc
  rw [if_neg h]
theorem m_v_own (k : qR tw th sz dp nm sy sp g0) {what t c : Int32} (h4 : 4 ≤ what.toInt) (h10 : what.toInt ≤ 10) (hc : what = 4 ∨ what = 5 → c = -1) (hf : ¬ (if 9 ≤ what then sp else sy) (q_slot t c).toNatClampNeg = 0) : m_v nm sy sp what t c = g0 38 (11 * (q_slot t c).toInt.toNat + what.toInt.toNat) := by
  have hb := q_slot_bi t c
  unfold m_v
  have ec : (if what = 4 ∨ what = 5 then -1 else c) = c := by
    split
    · rename_i hh; exact (hc hh).symm
    · rfl
  rw [ec, q_fc_own hf, q_i7 hb.1 hb.2 h4 h10]
  exact k.2.2.2.1 _ _ (by omega) (by omega) (by omega)
theorem qU.layStyle (h : qU w0 z0 g0 w F) (k : qR tw th sz dp nm sy sp g0) (t c : Int32) (hf : ¬ sy (q_slot t c).toNatClampNeg = 0) (hF : F.length + 5 ≤ 40000) : ∃ w', fD_layStyle 37 (q_slot t c) w = some (.inl none, w') ∧ qU w0 z0 g0 w' (F ++ ([m_v nm sy sp 6 t c &&& 255] ++ ([(m_v nm sy sp 7 t c - 2) &&& 255] ++ ([(m_v nm sy sp 7 t c - 2) &&& 255] ++ ([0] ++ [m_v nm sy sp 8 t c &&& 255]))))) := by
  have hb := q_slot_bi t c
  have mv : ∀ what : Int32, what = 6 ∨ what = 7 ∨ what = 8 → m_v nm sy sp what t c = g0 38 (11 * (q_slot t c).toInt.toNat + what.toInt.toNat) := fun what hw => by
    rcases hw with e | e | e <;> subst e <;> exact m_v_own k (by decide) (by decide) (fun hh => absurd hh (by decide)) hf
  have gt : ∀ (w' : PW) (F' : List Int32), qU w0 z0 g0 w' F' → ∀ what : Int32, what = 6 ∨ what = 7 ∨ what = 8 → fD_get 37 (q_slot t c) what w' = some (.inl (some (.int (m_v nm sy sp what t c))), w') := fun w' F' h' what hw => by
    rw [mv what hw]
    rcases hw with e | e | e <;> subst e <;> exact h'.get (q_slot t c) _ hb.1 (by omega) (by decide) (by decide)
  unfold fD_layStyle
  obtain ⟨f0, o0⟩ := h.O
  rw [o0, Option.bind_some, gt w F h 6 (Or.inl rfl), q_call, q_kI, o0, Option.bind_some]
  obtain ⟨w1, g1, h1⟩ := h.lay (m_v nm sy sp 6 t c) (by omega)
  obtain ⟨f1, o1⟩ := h1.O
  rw [g1, q_call, q_kV, o1, Option.bind_some, gt w1 _ h1 7 (Or.inr (Or.inl rfl)), q_call, q_kI, o1, Option.bind_some]
  obtain ⟨w2, g2, h2⟩ := h1.lay (m_v nm sy sp 7 t c - 2) (by simp; omega)
  obtain ⟨f2, o2⟩ := h2.O
  rw [g2, q_call, q_kV, o2, Option.bind_some, gt w2 _ h2 7 (Or.inr (Or.inl rfl)), q_call, q_kI, o2, Option.bind_some]
  obtain ⟨w3, g3, h3⟩ := h2.lay (m_v nm sy sp 7 t c - 2) (by simp; omega)
  obtain ⟨f3, o3⟩ := h3.O
  rw [g3, q_call, q_kV, o3, Option.bind_some]
  obtain ⟨w4, g4, h4⟩ := h3.lay 0 (by simp; omega)
  obtain ⟨f4, o4⟩ := h4.O
  rw [g4, q_call, q_kV, o4, Option.bind_some, gt w4 _ h4 8 (Or.inr (Or.inr rfl)), q_call, q_kI, o4, Option.bind_some]
  obtain ⟨w5, g5, h5⟩ := h4.lay (m_v nm sy sp 8 t c) (by simp; omega)
  rw [g5, q_call, q_kV]
  refine ⟨w5, rfl, ?_⟩
  simp only [List.append_assoc] at h5
  exact h5
theorem qU.layStep (h : qU w0 z0 g0 w F) (k : qR tw th sz dp nm sy sp g0) (t c : Int32) (hf : ¬ sp (q_slot t c).toNatClampNeg = 0) (hF : F.length + 3 ≤ 40000) : ∃ w', fD_layStep 37 (q_slot t c) w = some (.inl none, w') ∧ qU w0 z0 g0 w' (F ++ m_stp48 nm sy sp t c) := by
  have hb := q_slot_bi t c
  have mv : ∀ what : Int32, what = 9 ∨ what = 10 → m_v nm sy sp what t c = g0 38 (11 * (q_slot t c).toInt.toNat + what.toInt.toNat) := fun what hw => by
    rcases hw with e | e <;> subst e <;> exact m_v_own k (by decide) (by decide) (fun hh => absurd hh (by decide)) hf
  have gt : ∀ (w' : PW) (F' : List Int32), qU w0 z0 g0 w' F' → ∀ what : Int32, what = 9 ∨ what = 10 → fD_get 37 (q_slot t c) what w' = some (.inl (some (.int (m_v nm sy sp what t c))), w') := fun w' F' h' what hw => by
    rw [mv what hw]
    rcases hw with e | e <;> subst e <;> exact h'.get (q_slot t c) _ hb.1 (by omega) (by decide) (by decide)
  unfold fD_layStep
  obtain ⟨f0, o0⟩ := h.O
  rw [o0, Option.bind_some, gt w F h 10 (Or.inr rfl), q_call, q_kI, o0, Option.bind_some]
  obtain ⟨w1, g1, h1⟩ := h.lay (32 * m_v nm sy sp 10 t c + 1) (by omega)
  obtain ⟨f1, o1⟩ := h1.O
  rw [g1, q_call, q_kV, o1, Option.bind_some, gt w1 _ h1 9 (Or.inl rfl), q_call, q_kI, o1, Option.bind_some]
  obtain ⟨w2, g2, h2⟩ := h1.layTwo (2048 * m_v nm sy sp 9 t c) (by simp; omega)
  rw [g2, q_call, q_kV]
  refine ⟨w2, rfl, ?_⟩
  rw [List.append_assoc] at h2
  exact h2
theorem qU.sg163 {K : Nat → Int32 → Int32 → PW → PX} (h : qU w0 z0 g0 w F) (k : qR tw th sz dp nm sy sp g0) (t c : Int32) (hc : c = -1 ∨ 0 ≤ c.toInt) (hf : ¬ sp (q_slot t c).toNatClampNeg = 0) (hF : F.length + 8 ≤ 40000) : ∃ w', (if 0 ≤ c then fD_laySegments_153 K 37 t c (q_slot t c) 93 37 w else fD_laySegments_153 K 37 t c (q_slot t c) 92 37 w) = K 37 t (c + 1) w' ∧ qU w0 z0 g0 w' (F ++ m_step nm sy sp t c) := by
  unfold fD_laySegments_153 fD_laySegments_163 fD_laySegments_175 m_step
  obtain ⟨f0, o0⟩ := h.O
  by_cases hm : c = -1
  · have h0 : ¬ 0 ≤ c := by rw [hm]; decide
    have h1' : c < 0 := by rw [hm]; decide
    rw [if_neg h0, if_neg h0, if_pos hm, o0, Option.bind_some]
    obtain ⟨w1, g1, h1⟩ := h.layMark 92 5 (by omega)
    obtain ⟨f1, o1⟩ := h1.O
    rw [g1, q_call, q_kV, if_pos h1', o1, Option.bind_some]
    obtain ⟨w2, g2, h2⟩ := h1.layStep k t c hf (by simp [b2_len]; omega)
    rw [g2, q_call, q_kV, q_let]
    refine ⟨w2, rfl, ?_⟩
    simp only [List.append_assoc] at h2
    exact h2
  · have h0 : 0 ≤ c := q_lei.mpr (hc.resolve_left hm)
    have h1' : ¬ c < 0 := by grind
    rw [if_pos h0, if_pos h0, if_neg hm, o0, Option.bind_some]
    obtain ⟨w1, g1, h1⟩ := h.layMark 93 6 (by omega)
    obtain ⟨f1, o1⟩ := h1.O
    rw [g1, q_call, q_kV, if_neg h1', o1, Option.bind_some]
    obtain ⟨w2, g2, h2⟩ := h1.lay c (by simp [b2_len]; omega)
    obtain ⟨f2, o2⟩ := h2.O
    rw [g2, q_call, q_kV, o2, Option.bind_some]
    obtain ⟨w3, g3, h3⟩ := h2.layStep k t c hf (by simp [b2_len]; omega)
    rw [g3, q_call, q_kV, q_let]
    refine ⟨w3, rfl, ?_⟩
    simp only [List.append_assoc] at h3
    exact h3
theorem qU.sg53 {K : Nat → Int32 → Int32 → PW → PX} (h : qU w0 z0 g0 w F) (k : qR tw th sz dp nm sy sp g0) (t c : Int32) (hc : c = -1 ∨ 0 ≤ c.toInt) (hf : ¬ sy (q_slot t c).toNatClampNeg = 0) (hF : F.length + 14 ≤ 40000) : ∃ w', (if 0 ≤ c then fD_laySegments_42 K 37 t c (q_slot t c) 83 37 w else fD_laySegments_42 K 37 t c (q_slot t c) 82 37 w) = K 37 t (c + 1) w' ∧ qU w0 z0 g0 w' (F ++ m_style nm sy sp t c) := by
  have hb := q_slot_bi t c
  unfold fD_laySegments_42 fD_laySegments_53 fD_laySegments_103 m_style m_sty88
  obtain ⟨f0, o0⟩ := h.O
  by_cases hm : c = -1
  · have h0 : ¬ 0 ≤ c := by rw [hm]; decide
    rw [if_neg h0, if_neg h0, if_pos hm, o0, Option.bind_some]
    have mv : ∀ what : Int32, what = 4 ∨ what = 5 → m_v nm sy sp what t (-1) = g0 38 (11 * (q_slot t c).toInt.toNat + what.toInt.toNat) := fun what hw => by
      rw [hm] at hf ⊢
      rcases hw with e | e <;> subst e <;> exact m_v_own k (by decide) (by decide) (fun _ => rfl) hf
    have gt : ∀ (w' : PW) (F' : List Int32), qU w0 z0 g0 w' F' → ∀ what : Int32, what = 4 ∨ what = 5 → fD_get 37 (q_slot t c) what w' = some (.inl (some (.int (m_v nm sy sp what t (-1)))), w') := fun w' F' h' what hw => by
      rw [mv what hw]
      rcases hw with e | e <;> subst e <;> exact h'.get (q_slot t c) _ hb.1 (by omega) (by decide) (by decide)
    obtain ⟨w1, g1, h1⟩ := h.layMark 82 12 (by omega)
    obtain ⟨f1, o1⟩ := h1.O
    rw [g1, q_call, q_kV, if_neg h0, o1, Option.bind_some]
    obtain ⟨w2, g2, h2⟩ := h1.lay 0 (by simp [b2_len]; omega)
    obtain ⟨f2, o2⟩ := h2.O
    rw [g2, q_call, q_kV, o2, Option.bind_some, gt w2 _ h2 4 (Or.inl rfl), q_call, q_kI, o2, Option.bind_some]
    obtain ⟨w3, g3, h3⟩ := h2.lay (m_v nm sy sp 4 t (-1)) (by simp [b2_len]; omega)
    obtain ⟨f3, o3⟩ := h3.O
    rw [g3, q_call, q_kV, o3, Option.bind_some, gt w3 _ h3 5 (Or.inr rfl), q_call, q_kI, o3, Option.bind_some]
    obtain ⟨w4, g4, h4⟩ := h3.layTwo (m_v nm sy sp 5 t (-1)) (by simp [b2_len]; omega)
    obtain ⟨f4, o4⟩ := h4.O
    rw [g4, q_call, q_kV, o4, Option.bind_some]
    obtain ⟨w5, g5, h5⟩ := h4.lay 0 (by simp [b2_len]; omega)
    obtain ⟨f5, o5⟩ := h5.O
    rw [g5, q_call, q_kV, o5, Option.bind_some]
    obtain ⟨w6, g6, h6⟩ := h5.layStyle k t c hf (by simp [b2_len]; omega)
    rw [g6, q_call, q_kV, q_let]
    refine ⟨w6, rfl, ?_⟩
    simp only [List.append_assoc] at h6
    exact h6
  · have h0 : 0 ≤ c := q_lei.mpr (hc.resolve_left hm)
    rw [if_pos h0, if_pos h0, if_neg hm, o0, Option.bind_some]
    obtain ⟨w1, g1, h1⟩ := h.layMark 83 9 (by omega)
    obtain ⟨f1, o1⟩ := h1.O
    rw [g1, q_call, q_kV, if_pos h0, o1, Option.bind_some]
    obtain ⟨w2, g2, h2⟩ := h1.lay c (by simp [b2_len]; omega)
    obtain ⟨f2, o2⟩ := h2.O
    rw [g2, q_call, q_kV, o2, Option.bind_some]
    obtain ⟨w5, g5, h5⟩ := h2.lay 0 (by simp [b2_len]; omega)
    obtain ⟨f5, o5⟩ := h5.O
    rw [g5, q_call, q_kV, o5, Option.bind_some]
    obtain ⟨w6, g6, h6⟩ := h5.layStyle k t c hf (by simp [b2_len]; omega)
    rw [g6, q_call, q_kV, q_let]
    refine ⟨w6, rfl, ?_⟩
    simp only [List.append_assoc] at h6
    exact h6
theorem qU.size (h : qU w0 z0 g0 w F) (i : Nat) (hi : i < 10) : p_ald w 42 0 (Int32.ofNat i) = some (g0 42 i) := h.ld 42 0 i rfl (by omega) (by omega) hi (by decide) (by decide)
theorem qU.flag (h : qU w0 z0 g0 w F) (k : qR tw th sz dp nm sy sp g0) (t c : Int32) : p_ald w 39 2 (q_slot t c) = some (sy (q_slot t c).toNatClampNeg) ∧ p_ald w 40 2 (q_slot t c) = some (sp (q_slot t c).toNatClampNeg) := by
  have hb := q_slot_bi t c
  have hn : (q_slot t c).toNatClampNeg < 125 := by rw [q_tn]; omega
  have e := q_on (q_slot t c) hb.1
  have hk := k.2.2.1 _ hn
  have e2 : (q_slot t c).toInt.toNat = (q_slot t c).toNatClampNeg := rfl
  constructor
  · rw [e, h.ld 39 2 _ rfl (by omega) (by omega) (by show _ < 250; omega) (by decide) (by decide), ← e, e2, hk.1]
  · rw [e, h.ld 40 2 _ rfl (by omega) (by omega) (by show _ < 250; omega) (by decide) (by decide), ← e, e2, hk.2]
theorem qU.sg116 (k : qR tw th sz dp nm sy sp g0) {t : Int32} (t0 : -1 ≤ t.toInt) (t1 : t.toInt < 24) : ∀ (n : Nat) (c : Int32) (Fu : Nat) (w : PW) (F : List Int32), qU w0 z0 g0 w F → n < Fu → c.toInt + n = (sz 2).toInt → -1 ≤ c.toInt → F.length + 8 * n ≤ 40000 → ∃ w', fD_laySegments_116 Fu 37 t c w = some (.inl none, w') ∧ qU w0 z0 g0 w' (F ++ m_stps nm sy sp t n c)
  | 0, c, Fu + 1, w, F, h, _, hi, hc, hF => by
    have s2 : p_ald w 42 0 2 = some (sz 2) := by rw [k.1.2.2.1]; exact h.size 2 (by omega)
    rw [fD_laySegments_116, h.R 7 42 (fun _ => rfl), Option.bind_some, s2, Option.bind_some, if_pos (by rw [q_lei]; omega), m_stps, List.append_nil]
    exact ⟨w, rfl, h⟩
  | n + 1, c, Fu + 1, w, F, h, hFu, hi, hc, hF => by
    have s2 : p_ald w 42 0 2 = some (sz 2) := by rw [k.1.2.2.1]; exact h.size 2 (by omega)
    have hn4 := k.2.2.2.2.1
    have e1 := q_suc (k := c) (by omega)
    rw [fD_laySegments_116, h.R 7 42 (fun _ => rfl), Option.bind_some, s2, Option.bind_some, if_neg (by rw [q_lei]; omega), q_placeOf, q_call, q_kI, q_pl_slot t0 t1 hc (by omega), h.R 5 40 (fun _ => rfl), Option.bind_some, (h.flag k t c).2, Option.bind_some, m_stps]
    by_cases hb : sp (q_slot t c).toNatClampNeg = 0
    · rw [if_pos hb, if_pos hb, q_let, List.nil_append]
      exact qU.sg116 k t0 t1 n (c + 1) Fu w F h (by omega) (by omega) (by omega) (by omega)
    · rw [if_neg hb, if_neg hb]
      have hcm : c = -1 ∨ 0 ≤ c.toInt := by
        by_cases h0 : 0 ≤ c.toInt
        · exact Or.inr h0
        · exact Or.inl (q_i32 (show c.toInt = -1 by omega))
      obtain ⟨w1, g1, h1⟩ := h.sg163 (K := fD_laySegments_116 Fu) k t c hcm hb (by omega)
      rw [g1]
      have := m_step_len (nm := nm) (sy := sy) (sp := sp) t c
      obtain ⟨w2, g2, h2⟩ := qU.sg116 k t0 t1 n (c + 1) Fu w1 _ h1 (by omega) (by omega) (by omega) (by simp; omega)
      rw [List.append_assoc] at h2
      exact ⟨w2, g2, h2⟩
theorem qU.sg2 (k : qR tw th sz dp nm sy sp g0) {t : Int32} (t0 : -1 ≤ t.toInt) (t1 : t.toInt < 24) : ∀ (n : Nat) (c : Int32) (Fu : Nat) (w : PW) (F : List Int32), qU w0 z0 g0 w F → n < Fu → c.toInt + n = (sz 2).toInt → -1 ≤ c.toInt → F.length + 14 * n + 40 ≤ 40000 → ∃ w', fD_laySegments_2 Fu 37 t c w = some (.inl none, w') ∧ qU w0 z0 g0 w' (F ++ (m_stys nm sy sp t n c ++ m_stps nm sy sp t ((sz 2).toInt.toNat + 1) (-1)))
  | 0, c, Fu + 1, w, F, h, _, hi, hc, hF => by
    have s2 : p_ald w 42 0 2 = some (sz 2) := by rw [k.1.2.2.1]; exact h.size 2 (by omega)
    have hn4 := k.2.2.2.2.1
    have em : (-1 : Int32).toInt = -1 := rfl
    rw [fD_laySegments_2, h.R 7 42 (fun _ => rfl), Option.bind_some, s2, Option.bind_some, if_pos (by rw [q_lei]; omega), m_stys, List.nil_append]
    exact qU.sg116 k t0 t1 ((sz 2).toInt.toNat + 1) (-1) FUEL w F h (by show _ < 1000000; omega) (by omega) (by omega) (by omega)
  | n + 1, c, Fu + 1, w, F, h, hFu, hi, hc, hF => by
    have s2 : p_ald w 42 0 2 = some (sz 2) := by rw [k.1.2.2.1]; exact h.size 2 (by omega)
    have hn4 := k.2.2.2.2.1
    have e1 := q_suc (k := c) (by omega)
    rw [fD_laySegments_2, h.R 7 42 (fun _ => rfl), Option.bind_some, s2, Option.bind_some, if_neg (by rw [q_lei]; omega), q_placeOf, q_call, q_kI, q_pl_slot t0 t1 hc (by omega), h.R 4 39 (fun _ => rfl), Option.bind_some, (h.flag k t c).1, Option.bind_some, m_stys]
    by_cases hb : sy (q_slot t c).toNatClampNeg = 0
    · rw [if_neg (not_not_intro hb), if_pos hb, q_let, List.nil_append]
      exact qU.sg2 k t0 t1 n (c + 1) Fu w F h (by omega) (by omega) (by omega) (by omega)
    · rw [if_pos hb, if_neg hb]
      have hcm : c = -1 ∨ 0 ≤ c.toInt := by
        by_cases h0 : 0 ≤ c.toInt
        · exact Or.inr h0
        · exact Or.inl (q_i32 (show c.toInt = -1 by omega))
      obtain ⟨w1, g1, h1⟩ := h.sg53 (K := fD_laySegments_2 Fu) k t c hcm hb (by omega)
      rw [g1]
      have := m_style_len (nm := nm) (sy := sy) (sp := sp) t c
      obtain ⟨w2, g2, h2⟩ := qU.sg2 k t0 t1 n (c + 1) Fu w1 _ h1 (by omega) (by omega) (by omega) (by simp; omega)
      rw [List.append_assoc] at h2
      rw [List.append_assoc]
      exact ⟨w2, g2, h2⟩
theorem qU.segments (h : qU w0 z0 g0 w F) (k : qR tw th sz dp nm sy sp g0) {t : Int32} (t0 : -1 ≤ t.toInt) (t1 : t.toInt < 24) (hF : F.length + 110 ≤ 40000) : ∃ w', fD_laySegments 37 t w = some (.inl none, w') ∧ qU w0 z0 g0 w' (F ++ m_segs (sz 2).toInt nm sy sp t) := by
  have hn4 := k.2.2.2.2.1
  have em : (-1 : Int32).toInt = -1 := rfl
  exact qU.sg2 k t0 t1 ((sz 2).toInt.toNat + 1) (-1) FUEL w F h (by show _ < 1000000; omega) (by omega) (by omega) (by omega)
end
