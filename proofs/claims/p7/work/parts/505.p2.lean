theorem q_bv (a b : BitVec 32) (h : ∀ i, i < 8 → a.getLsbD i = b.getLsbD i) : a &&& 255#32 = b &&& 255#32 := by
  ext i hi
  simp only [BitVec.getElem_and]
  by_cases h8 : i < 8
  · congr 1
    have := h i h8
    rw [BitVec.getLsbD_eq_getElem hi, BitVec.getLsbD_eq_getElem hi] at this
    exact this
  · have : (255#32)[i] = false := by
      have e : ∀ j : Nat, j < 32 → 8 ≤ j → (255#32).getLsbD j = false := by decide
      exact e i hi (by omega)
    rw [this, Bool.and_false, Bool.and_false]
theorem q_ushr0 (v : Int32) : p_ushr v 0 &&& 255 = v &&& 255 := by
  apply Int32.toBitVec_inj.mp
  show (v.toBitVec >>> (0 : Nat)) &&& 255#32 = v.toBitVec &&& 255#32
  exact q_bv _ _ (fun i hi => by simp)
theorem q_f1 (v : Int32) : p_ushr (p_ushr v 16) 8 &&& 255 = p_ushr v 24 &&& 255 := by
  apply Int32.toBitVec_inj.mp
  show ((v.toBitVec >>> (16 : Nat)) >>> (8 : Nat)) &&& 255#32 = (v.toBitVec >>> (24 : Nat)) &&& 255#32
  exact q_bv _ _ (fun i hi => by simp only [BitVec.getLsbD_ushiftRight]; congr 1; omega)
theorem q_f2 (v : Int32) : p_ushr (p_ushr v 16) 0 &&& 255 = p_ushr v 16 &&& 255 := q_ushr0 _
theorem q_65535 : ∀ j : Nat, j < 16 → (65535#32).getLsbD j = true := by decide
theorem q_f3 (v : Int32) : p_ushr (v &&& 65535) 8 &&& 255 = p_ushr v 8 &&& 255 := by
  apply Int32.toBitVec_inj.mp
  show ((v.toBitVec &&& 65535#32) >>> (8 : Nat)) &&& 255#32 = (v.toBitVec >>> (8 : Nat)) &&& 255#32
  exact q_bv _ _ (fun i hi => by simp only [BitVec.getLsbD_ushiftRight, BitVec.getLsbD_and]; rw [q_65535 _ (by omega), Bool.and_true])
theorem q_f4 (v : Int32) : p_ushr (v &&& 65535) 0 &&& 255 = p_ushr v 0 &&& 255 := by
  rw [q_ushr0, q_ushr0]
  apply Int32.toBitVec_inj.mp
  show (v.toBitVec &&& 65535#32) &&& 255#32 = v.toBitVec &&& 255#32
  exact q_bv _ _ (fun i hi => by simp only [BitVec.getLsbD_and]; rw [q_65535 _ (by omega), Bool.and_true])
theorem b4_two (v : Int32) : b2 (p_ushr v 16) ++ b2 (v &&& 65535) = b4 v := by
  unfold b2 b4
  rw [q_f1, q_f2, q_f3, q_f4]
  rfl
/-- the reference writing: since w0 only its file has changed, which holds F -/
def qU (w0 : PW) (z0 : Nat → Int32) (g0 : Nat → Nat → Int32) (w : PW) (F : List Int32) : Prop := ∃ z g, qM w z g ∧ qI 37 66 w0 w ∧ (∀ k, k ≠ 20 → z k = z0 k) ∧ (∀ k, k ≠ 52 → g k = g0 k) ∧ z 20 = Int32.ofNat F.length ∧ qY g 52 F ∧ F.length ≤ 40000
section
variable {w0 w : PW} {z0 : Nat → Int32} {g0 : Nat → Nat → Int32} {F : List Int32} {tw th : Int32} {sz dp nm sy sp : Nat → Int32}
theorem qU.O (h : qU w0 z0 g0 w F) : ∃ fs, p_obj w 37 10 = some fs := by
  obtain ⟨z, g, h1, -⟩ := h
  exact ⟨_, h1.obj⟩
theorem qU.R (h : qU w0 z0 g0 w F) (k r : Nat) (hk : ∀ z, (mO z)[k]? = some (.ref r)) : p_getR w 37 10 k = some r := by
  obtain ⟨z, g, h1, -⟩ := h
  exact h1.R k r (hk z)
theorem qU.I (h : qU w0 z0 g0 w F) (k : Nat) (hk : ∀ z, (mO z)[k]? = some (.int (z k))) (h20 : k ≠ 20) : p_getI w 37 10 k = some (z0 k) := by
  obtain ⟨z, g, h1, -, h3, -⟩ := h
  rw [h1.I k (hk z), h3 k h20]
theorem qU.C (h : qU w0 z0 g0 w F) : p_getI w 37 10 20 = some (Int32.ofNat F.length) := by
  obtain ⟨z, g, h1, -, -, -, h5, -⟩ := h
  rw [h1.I 20 rfl, h5]
theorem qU.ld (h : qU w0 z0 g0 w F) (k t i : Nat) (ht : mT k = t) (h1 : 38 ≤ k) (h2 : k < 66) (hi : i < mL k) (hl : mL k ≤ 40000) (h52 : k ≠ 52) : p_ald w k t (Int32.ofNat i) = some (g0 k i) := by
  obtain ⟨z, g, k1, -, -, k4, -⟩ := h
  rw [k1.ldn k t i ht h1 h2 hi hl, k4 k h52]
theorem qU.lay (h : qU w0 z0 g0 w F) (b : Int32) (hF : F.length < 40000) : ∃ w', fD_lay 37 b w = some (.inl none, w') ∧ qU w0 z0 g0 w' (F ++ [b &&& 255]) := by
  obtain ⟨z, g, h1, h2, h3, h4, h5, h6, h7⟩ := h
  unfold fD_lay
  rw [h1.R 19 52 rfl, Option.bind_some, h1.I 20 rfl, Option.bind_some, h5]
  obtain ⟨w1, g1, q1, F1⟩ := h1.stn 52 0 F.length (b &&& 255) rfl (by omega) (by omega) (by show _ < 40000; omega) (by decide)
  rw [g1, Option.bind_some, q1.I 20 rfl, Option.bind_some, h5, show Int32.ofNat F.length + 1 = Int32.ofNat (F.length + 1) from (Int32.ofNat_add _ 1).symm]
  obtain ⟨w2, g2, q2, F2⟩ := q1.put 20 (Int32.ofNat (F.length + 1)) (by omega) rfl
  rw [g2, Option.bind_some]
  refine ⟨w2, rfl, _, _, q2, (h2.tr F1).tr F2, fun k hk => ?_, fun k hk => by rw [ug_ne _ _ _ hk, h4 k hk], ?_, h6.snoc _, by simp; omega⟩
  · rw [← h3 k hk]
    unfold upd
    rw [if_neg hk]
  · show Int32.ofNat (F.length + 1) = _
    rw [List.length_append]
    rfl
theorem qU.layTwo (h : qU w0 z0 g0 w F) (v : Int32) (hF : F.length + 2 ≤ 40000) : ∃ w', fD_layTwo 37 v w = some (.inl none, w') ∧ qU w0 z0 g0 w' (F ++ b2 v) := by
  unfold fD_layTwo
  obtain ⟨f0, o0⟩ := h.O
  rw [o0, Option.bind_some]
  obtain ⟨w1, g1, h1⟩ := h.lay (p_ishr v 8) (by omega)
  obtain ⟨f1, o1⟩ := h1.O
  rw [g1, q_call, q_kV, o1, Option.bind_some]
  obtain ⟨w2, g2, h2⟩ := h1.lay v (by simp; omega)
  rw [g2, q_call, q_kV]
  refine ⟨w2, rfl, ?_⟩
  rw [List.append_assoc, q_shr v 8 (Or.inr (Or.inl rfl)), ← q_ushr0 v] at h2
  exact h2
theorem qU.layFour (h : qU w0 z0 g0 w F) (v : Int32) (hF : F.length + 4 ≤ 40000) : ∃ w', fD_layFour 37 v w = some (.inl none, w') ∧ qU w0 z0 g0 w' (F ++ b4 v) := by
  unfold fD_layFour
  obtain ⟨f0, o0⟩ := h.O
  rw [o0, Option.bind_some]
  obtain ⟨w1, g1, h1⟩ := h.layTwo (p_ushr v 16) (by omega)
  obtain ⟨f1, o1⟩ := h1.O
  rw [g1, q_call, q_kV, o1, Option.bind_some]
  obtain ⟨w2, g2, h2⟩ := h1.layTwo (v &&& 65535) (by simp [b2_len]; omega)
  rw [g2, q_call, q_kV]
  refine ⟨w2, rfl, ?_⟩
  rw [List.append_assoc, b4_two] at h2
  exact h2
theorem qU.layMark (h : qU w0 z0 g0 w F) (m n : Int32) (hF : F.length + 4 ≤ 40000) : ∃ w', fD_layMark 37 m n w = some (.inl none, w') ∧ qU w0 z0 g0 w' (F ++ ([255, m &&& 255] ++ b2 n)) := by
  unfold fD_layMark
  obtain ⟨f0, o0⟩ := h.O
  rw [o0, Option.bind_some]
  obtain ⟨w1, g1, h1⟩ := h.lay 255 (by omega)
  obtain ⟨f1, o1⟩ := h1.O
  rw [g1, q_call, q_kV, o1, Option.bind_some]
  obtain ⟨w2, g2, h2⟩ := h1.lay m (by simp; omega)
  obtain ⟨f2, o2⟩ := h2.O
  rw [g2, q_call, q_kV, o2, Option.bind_some]
  obtain ⟨w3, g3, h3⟩ := h2.layTwo n (by simp; omega)
  rw [g3, q_call, q_kV]
  refine ⟨w3, rfl, ?_⟩
  simp only [List.append_assoc] at h3
  exact h3
theorem qU.get (h : qU w0 z0 g0 w F) (pl what : Int32) (p0 : 0 ≤ pl.toInt) (p1 : pl.toInt < 250) (w0' : 0 ≤ what.toInt) (w1 : what.toInt ≤ 10) : fD_get 37 pl what w = some (.inl (some (.int (g0 38 (11 * pl.toInt.toNat + what.toInt.toNat)))), w) := by
  obtain ⟨z, g, h1, -, -, h4, -⟩ := h
  rw [h1.mget pl what (q_lei.mpr p0) (by rw [q_lti]; show _ < (250 : Int); omega) (by rw [q_lei]; show (0 : Int) ≤ _; omega) (by rw [q_lei]; show _ ≤ (10 : Int); omega), h4 38 (by decide), q_i11 p0 p1 w0' w1]
/-- a segment that is there is in force -/
theorem q_fc_own {f : Nat → Int32} {t c : Int32} (h : ¬ f (q_slot t c).toNatClampNeg = 0) : q_fc f t c = q_slot t c := by
  unfold q_fc
  rw [if_neg h]
theorem m_v_own (k : qR tw th sz dp nm sy sp g0) {what t c : Int32} (h4 : 4 ≤ what.toInt) (h10 : what.toInt ≤ 10) (hc : what = 4 ∨ what = 5 → c = -1) (hf : ¬ (if 9 ≤ what then sp else sy) (q_slot t c).toNatClampNeg = 0) : m_v nm sy sp what t c = g0 38 (11 * (q_slot t c).toInt.toNat + what.toInt.toNat) := by
  have hb := q_slot_bi t c
  unfold m_v
  have ec : (if what = 4 ∨ what = 5 then -1 else c) = c := by
    split
    · rename_i hh; exact (hc hh).symm
    · rfl
  rw [ec, q_fc_own hf, q_i7 hb.1 hb.2 h4 h10]
  exact k.2.2.2.1 _ _ (by omega) (by omega) (by omega)
theorem qU.layStyle (h : qU w0 z0 g0 w F) (k : qR tw th sz dp nm sy sp g0) (t c : Int32) (hf : ¬ sy (q_slot t c).toNatClampNeg = 0) (hF : F.length + 5 ≤ 40000) : ∃ w', fD_layStyle 37 (q_slot t c) w = some (.inl none, w') ∧ qU w0 z0 g0 w' (F ++ ([m_v nm sy sp 6 t c &&& 255] ++ ([(m_v nm sy sp 7 t c - 2) &&& 255] ++ ([(m_v nm sy sp 7 t c - 2) &&& 255] ++ ([0] ++ [m_v nm sy sp 8 t c &&& 255]))))) := by
  have hb := q_slot_bi t c
  have mv : ∀ what : Int32, what = 6 ∨ what = 7 ∨ what = 8 → m_v nm sy sp what t c = g0 38 (11 * (q_slot t c).toInt.toNat + what.toInt.toNat) := fun what hw => by
    rcases hw with e | e | e <;> subst e <;> exact m_v_own k (by decide) (by decide) (fun hh => absurd hh (by decide)) hf
  have gt : ∀ (w' : PW) (F' : List Int32), qU w0 z0 g0 w' F' → ∀ what : Int32, what = 6 ∨ what = 7 ∨ what = 8 → fD_get 37 (q_slot t c) what w' = some (.inl (some (.int (m_v nm sy sp what t c))), w') := fun w' F' h' what hw => by
    rw [mv what hw]
    rcases hw with e | e | e <;> subst e <;> exact h'.get (q_slot t c) _ hb.1 (by omega) (by decide) (by decide)
  unfold fD_layStyle
  obtain ⟨f0, o0⟩ := h.O
  rw [o0, Option.bind_some, gt w F h 6 (Or.inl rfl), q_call, q_kI, o0, Option.bind_some]
  obtain ⟨w1, g1, h1⟩ := h.lay (m_v nm sy sp 6 t c) (by omega)
  obtain ⟨f1, o1⟩ := h1.O
  rw [g1, q_call, q_kV, o1, Option.bind_some, gt w1 _ h1 7 (Or.inr (Or.inl rfl)), q_call, q_kI, o1, Option.bind_some]
  obtain ⟨w2, g2, h2⟩ := h1.lay (m_v nm sy sp 7 t c - 2) (by simp; omega)
  obtain ⟨f2, o2⟩ := h2.O
  rw [g2, q_call, q_kV, o2, Option.bind_some, gt w2 _ h2 7 (Or.inr (Or.inl rfl)), q_call, q_kI, o2, Option.bind_some]
  obtain ⟨w3, g3, h3⟩ := h2.lay (m_v nm sy sp 7 t c - 2) (by simp; omega)
  obtain ⟨f3, o3⟩ := h3.O
  rw [g3, q_call, q_kV, o3, Option.bind_some]
  obtain ⟨w4, g4, h4⟩ := h3.lay 0 (by simp; omega)
  obtain ⟨f4, o4⟩ := h4.O
  rw [g4, q_call, q_kV, o4, Option.bind_some, gt w4 _ h4 8 (Or.inr (Or.inr rfl)), q_call, q_kI, o4, Option.bind_some]
  obtain ⟨w5, g5, h5⟩ := h4.lay (m_v nm sy sp 8 t c) (by simp; omega)
  rw [g5, q_call, q_kV]
  refine ⟨w5, rfl, ?_⟩
  simp only [List.append_assoc] at h5
  exact h5
theorem qU.layStep (h : qU w0 z0 g0 w F) (k : qR tw th sz dp nm sy sp g0) (t c : Int32) (hf : ¬ sp (q_slot t c).toNatClampNeg = 0) (hF : F.length + 3 ≤ 40000) : ∃ w', fD_layStep 37 (q_slot t c) w = some (.inl none, w') ∧ qU w0 z0 g0 w' (F ++ m_stp48 nm sy sp t c) := by
  have hb := q_slot_bi t c
  have mv : ∀ what : Int32, what = 9 ∨ what = 10 → m_v nm sy sp what t c = g0 38 (11 * (q_slot t c).toInt.toNat + what.toInt.toNat) := fun what hw => by
    rcases hw with e | e <;> subst e <;> exact m_v_own k (by decide) (by decide) (fun hh => absurd hh (by decide)) hf
  have gt : ∀ (w' : PW) (F' : List Int32), qU w0 z0 g0 w' F' → ∀ what : Int32, what = 9 ∨ what = 10 → fD_get 37 (q_slot t c) what w' = some (.inl (some (.int (m_v nm sy sp what t c))), w') := fun w' F' h' what hw => by
    rw [mv what hw]
    rcases hw with e | e <;> subst e <;> exact h'.get (q_slot t c) _ hb.1 (by omega) (by decide) (by decide)
  unfold fD_layStep
  obtain ⟨f0, o0⟩ := h.O
  rw [o0, Option.bind_some, gt w F h 10 (Or.inr rfl), q_call, q_kI, o0, Option.bind_some]
  obtain ⟨w1, g1, h1⟩ := h.lay (32 * m_v nm sy sp 10 t c + 1) (by omega)
  obtain ⟨f1, o1⟩ := h1.O
  rw [g1, q_call, q_kV, o1, Option.bind_some, gt w1 _ h1 9 (Or.inl rfl), q_call, q_kI, o1, Option.bind_some]
  obtain ⟨w2, g2, h2⟩ := h1.layTwo (2048 * m_v nm sy sp 9 t c) (by simp; omega)
  rw [g2, q_call, q_kV]
  refine ⟨w2, rfl, ?_⟩
  rw [List.append_assoc] at h2
  exact h2
theorem qU.sg163 {K : Nat → Int32 → Int32 → PW → PX} (h : qU w0 z0 g0 w F) (k : qR tw th sz dp nm sy sp g0) (t c : Int32) (hc : c = -1 ∨ 0 ≤ c.toInt) (hf : ¬ sp (q_slot t c).toNatClampNeg = 0) (hF : F.length + 8 ≤ 40000) : ∃ w', (if 0 ≤ c then fD_laySegments_153 K 37 t c (q_slot t c) 93 37 w else fD_laySegments_153 K 37 t c (q_slot t c) 92 37 w) = K 37 t (c + 1) w' ∧ qU w0 z0 g0 w' (F ++ m_step nm sy sp t c) := by
  unfold fD_laySegments_153 fD_laySegments_163 fD_laySegments_175 m_step
  obtain ⟨f0, o0⟩ := h.O
  by_cases hm : c = -1
  · have h0 : ¬ 0 ≤ c := by rw [hm]; decide
    have h1' : c < 0 := by rw [hm]; decide
    rw [if_neg h0, if_neg h0, if_pos hm, o0, Option.bind_some]
    obtain ⟨w1, g1, h1⟩ := h.layMark 92 5 (by omega)
    obtain ⟨f1, o1⟩ := h1.O
    rw [g1, q_call, q_kV, if_pos h1', o1, Option.bind_some]
    obtain ⟨w2, g2, h2⟩ := h1.layStep k t c hf (by simp [b2_len]; omega)
    rw [g2, q_call, q_kV, q_let]
    refine ⟨w2, rfl, ?_⟩
    simp only [List.append_assoc] at h2
    exact h2
  · have h0 : 0 ≤ c := q_lei.mpr (hc.resolve_left hm)
    have h1' : ¬ c < 0 := by grind
    rw [if_pos h0, if_pos h0, if_neg hm, o0, Option.bind_some]
    obtain ⟨w1, g1, h1⟩ := h.layMark 93 6 (by omega)
    obtain ⟨f1, o1⟩ := h1.O
    rw [g1, q_call, q_kV, if_neg h1', o1, Option.bind_some]
    obtain ⟨w2, g2, h2⟩ := h1.lay c (by simp [b2_len]; omega)
    obtain ⟨f2, o2⟩ := h2.O
    rw [g2, q_call, q_kV, o2, Option.bind_some]
    obtain ⟨w3, g3, h3⟩ := h2.layStep k t c hf (by simp [b2_len]; omega)
    rw [g3, q_call, q_kV, q_let]
    refine ⟨w3, rfl, ?_⟩
    simp only [List.append_assoc] at h3
    exact h3
theorem qU.sg53 {K : Nat → Int32 → Int32 → PW → PX} (h : qU w0 z0 g0 w F) (k : qR tw th sz dp nm sy sp g0) (t c : Int32) (hc : c = -1 ∨ 0 ≤ c.toInt) (hf : ¬ sy (q_slot t c).toNatClampNeg = 0) (hF : F.length + 14 ≤ 40000) : ∃ w', (if 0 ≤ c then fD_laySegments_42 K 37 t c (q_slot t c) 83 37 w else fD_laySegments_42 K 37 t c (q_slot t c) 82 37 w) = K 37 t (c + 1) w' ∧ qU w0 z0 g0 w' (F ++ m_style nm sy sp t c) := by
  have hb := q_slot_bi t c
  unfold fD_laySegments_42 fD_laySegments_53 fD_laySegments_103 m_style m_sty88
  obtain ⟨f0, o0⟩ := h.O
  by_cases hm : c = -1
  · have h0 : ¬ 0 ≤ c := by rw [hm]; decide
    rw [if_neg h0, if_neg h0, if_pos hm, o0, Option.bind_some]
    have mv : ∀ what : Int32, what = 4 ∨ what = 5 → m_v nm sy sp what t (-1) = g0 38 (11 * (q_slot t c).toInt.toNat + what.toInt.toNat) := fun what hw => by
      rw [hm] at hf ⊢
      rcases hw with e | e <;> subst e <;> exact m_v_own k (by decide) (by decide) (fun _ => rfl) hf
    have gt : ∀ (w' : PW) (F' : List Int32), qU w0 z0 g0 w' F' → ∀ what : Int32, what = 4 ∨ what = 5 → fD_get 37 (q_slot t c) what w' = some (.inl (some (.int (m_v nm sy sp what t (-1)))), w') := fun w' F' h' what hw => by
      rw [mv what hw]
      rcases hw with e | e <;> subst e <;> exact h'.get (q_slot t c) _ hb.1 (by omega) (by decide) (by decide)
    obtain ⟨w1, g1, h1⟩ := h.layMark 82 12 (by omega)
    obtain ⟨f1, o1⟩ := h1.O
    rw [g1, q_call, q_kV, if_neg h0, o1, Option.bind_some]
    obtain ⟨w2, g2, h2⟩ := h1.lay 0 (by simp [b2_len]; omega)
    obtain ⟨f2, o2⟩ := h2.O
    rw [g2, q_call, q_kV, o2, Option.bind_some, gt w2 _ h2 4 (Or.inl rfl), q_call, q_kI, o2, Option.bind_some]
    obtain ⟨w3, g3, h3⟩ := h2.lay (m_v nm sy sp 4 t (-1)) (by simp [b2_len]; omega)
    obtain ⟨f3, o3⟩ := h3.O
    rw [g3, q_call, q_kV, o3, Option.bind_some, gt w3 _ h3 5 (Or.inr rfl), q_call, q_kI, o3, Option.bind_some]
    obtain ⟨w4, g4, h4⟩ := h3.layTwo (m_v nm sy sp 5 t (-1)) (by simp [b2_len]; omega)
    obtain ⟨f4, o4⟩ := h4.O
    rw [g4, q_call, q_kV, o4, Option.bind_some]
    obtain ⟨w5, g5, h5⟩ := h4.lay 0 (by simp [b2_len]; omega)
    obtain ⟨f5, o5⟩ := h5.O
    rw [g5, q_call, q_kV, o5, Option.bind_some]
    obtain ⟨w6, g6, h6⟩ := h5.layStyle k t c hf (by simp [b2_len]; omega)
    rw [g6, q_call, q_kV, q_let]
    refine ⟨w6, rfl, ?_⟩
    simp only [List.append_assoc] at h6
    exact h6
  · have h0 : 0 ≤ c := q_lei.mpr (hc.resolve_left hm)
    rw [if_pos h0, if_pos h0, if_neg hm, o0, Option.bind_some]
    obtain ⟨w1, g1, h1⟩ := h.layMark 83 9 (by omega)
    obtain ⟨f1, o1⟩ := h1.O
    rw [g1, q_call, q_kV, if_pos h0, o1, Option.bind_some]
    obtain ⟨w2, g2, h2⟩ := h1.lay c (by simp [b2_len]; omega)
    obtain ⟨f2, o2⟩ := h2.O
    rw [g2, q_call, q_kV, o2, Option.bind_some]
    obtain ⟨w5, g5, h5⟩ := h2.lay 0 (by simp [b2_len]; omega)
    obtain ⟨f5, o5⟩ := h5.O
    rw [g5, q_call, q_kV, o5, Option.bind_some]
    obtain ⟨w6, g6, h6⟩ := h5.layStyle k t c hf (by simp [b2_len]; omega)
    rw [g6, q_call, q_kV, q_let]
    refine ⟨w6, rfl, ?_⟩
    simp only [List.append_assoc] at h6
    exact h6
theorem qU.size (h : qU w0 z0 g0 w F) (i : Nat) (hi : i < 10) : p_ald w 42 0 (Int32.ofNat i) = some (g0 42 i) := h.ld 42 0 i rfl (by omega) (by omega) hi (by decide) (by decide)
theorem qU.flag (h : qU w0 z0 g0 w F) (k : qR tw th sz dp nm sy sp g0) (t c : Int32) : p_ald w 39 2 (q_slot t c) = some (sy (q_slot t c).toNatClampNeg) ∧ p_ald w 40 2 (q_slot t c) = some (sp (q_slot t c).toNatClampNeg) := by
  have hb := q_slot_bi t c
  have hn : (q_slot t c).toNatClampNeg < 125 := by rw [q_tn]; omega
  have e := q_on (q_slot t c) hb.1
  have hk := k.2.2.1 _ hn
  have e2 : (q_slot t c).toInt.toNat = (q_slot t c).toNatClampNeg := rfl
  constructor
  · rw [e, h.ld 39 2 _ rfl (by omega) (by omega) (by show _ < 250; omega) (by decide) (by decide), ← e, e2, hk.1]
  · rw [e, h.ld 40 2 _ rfl (by omega) (by omega) (by show _ < 250; omega) (by decide) (by decide), ← e, e2, hk.2]
theorem qU.sg116 (k : qR tw th sz dp nm sy sp g0) {t : Int32} (t0 : -1 ≤ t.toInt) (t1 : t.toInt < 24) : ∀ (n : Nat) (c : Int32) (Fu : Nat) (w : PW) (F : List Int32), qU w0 z0 g0 w F → n < Fu → c.toInt + n = (sz 2).toInt → -1 ≤ c.toInt → F.length + 8 * n ≤ 40000 → ∃ w', fD_laySegments_116 Fu 37 t c w = some (.inl none, w') ∧ qU w0 z0 g0 w' (F ++ m_stps nm sy sp t n c)
  | 0, c, Fu + 1, w, F, h, _, hi, hc, hF => by
    have s2 : p_ald w 42 0 2 = some (sz 2) := by rw [k.1.2.2.1]; exact h.size 2 (by omega)
    rw [fD_laySegments_116, h.R 7 42 (fun _ => rfl), Option.bind_some, s2, Option.bind_some, if_pos (by rw [q_lei]; omega), m_stps, List.append_nil]
    exact ⟨w, rfl, h⟩
  | n + 1, c, Fu + 1, w, F, h, hFu, hi, hc, hF => by
    have s2 : p_ald w 42 0 2 = some (sz 2) := by rw [k.1.2.2.1]; exact h.size 2 (by omega)
    have hn4 := k.2.2.2.2.1
    have e1 := q_suc (k := c) (by omega)
    rw [fD_laySegments_116, h.R 7 42 (fun _ => rfl), Option.bind_some, s2, Option.bind_some, if_neg (by rw [q_lei]; omega), q_placeOf, q_call, q_kI, q_pl_slot t0 t1 hc (by omega), h.R 5 40 (fun _ => rfl), Option.bind_some, (h.flag k t c).2, Option.bind_some, m_stps]
    by_cases hb : sp (q_slot t c).toNatClampNeg = 0
    · rw [if_pos hb, if_pos hb, q_let, List.nil_append]
      exact qU.sg116 k t0 t1 n (c + 1) Fu w F h (by omega) (by omega) (by omega) (by omega)
    · rw [if_neg hb, if_neg hb]
      have hcm : c = -1 ∨ 0 ≤ c.toInt := by
        by_cases h0 : 0 ≤ c.toInt
        · exact Or.inr h0
        · exact Or.inl (q_i32 (show c.toInt = -1 by omega))
      obtain ⟨w1, g1, h1⟩ := h.sg163 (K := fD_laySegments_116 Fu) k t c hcm hb (by omega)
      rw [g1]
      have := m_step_len (nm := nm) (sy := sy) (sp := sp) t c
      obtain ⟨w2, g2, h2⟩ := qU.sg116 k t0 t1 n (c + 1) Fu w1 _ h1 (by omega) (by omega) (by omega) (by simp; omega)
      rw [List.append_assoc] at h2
      exact ⟨w2, g2, h2⟩
theorem qU.sg2 (k : qR tw th sz dp nm sy sp g0) {t : Int32} (t0 : -1 ≤ t.toInt) (t1 : t.toInt < 24) : ∀ (n : Nat) (c : Int32) (Fu : Nat) (w : PW) (F : List Int32), qU w0 z0 g0 w F → n < Fu → c.toInt + n = (sz 2).toInt → -1 ≤ c.toInt → F.length + 14 * n + 40 ≤ 40000 → ∃ w', fD_laySegments_2 Fu 37 t c w = some (.inl none, w') ∧ qU w0 z0 g0 w' (F ++ (m_stys nm sy sp t n c ++ m_stps nm sy sp t ((sz 2).toInt.toNat + 1) (-1)))
  | 0, c, Fu + 1, w, F, h, _, hi, hc, hF => by
    have s2 : p_ald w 42 0 2 = some (sz 2) := by rw [k.1.2.2.1]; exact h.size 2 (by omega)
    have hn4 := k.2.2.2.2.1
    have em : (-1 : Int32).toInt = -1 := rfl
    rw [fD_laySegments_2, h.R 7 42 (fun _ => rfl), Option.bind_some, s2, Option.bind_some, if_pos (by rw [q_lei]; omega), m_stys, List.nil_append]
    exact qU.sg116 k t0 t1 ((sz 2).toInt.toNat + 1) (-1) FUEL w F h (by show _ < 1000000; omega) (by omega) (by omega) (by omega)
  | n + 1, c, Fu + 1, w, F, h, hFu, hi, hc, hF => by
    have s2 : p_ald w 42 0 2 = some (sz 2) := by rw [k.1.2.2.1]; exact h.size 2 (by omega)
    have hn4 := k.2.2.2.2.1
    have e1 := q_suc (k := c) (by omega)
    rw [fD_laySegments_2, h.R 7 42 (fun _ => rfl), Option.bind_some, s2, Option.bind_some, if_neg (by rw [q_lei]; omega), q_placeOf, q_call, q_kI, q_pl_slot t0 t1 hc (by omega), h.R 4 39 (fun _ => rfl), Option.bind_some, (h.flag k t c).1, Option.bind_some, m_stys]
    by_cases hb : sy (q_slot t c).toNatClampNeg = 0
    · rw [if_neg (not_not_intro hb), if_pos hb, q_let, List.nil_append]
      exact qU.sg2 k t0 t1 n (c + 1) Fu w F h (by omega) (by omega) (by omega) (by omega)
    · rw [if_pos hb, if_neg hb]
      have hcm : c = -1 ∨ 0 ≤ c.toInt := by
        by_cases h0 : 0 ≤ c.toInt
        · exact Or.inr h0
        · exact Or.inl (q_i32 (show c.toInt = -1 by omega))
      obtain ⟨w1, g1, h1⟩ := h.sg53 (K := fD_laySegments_2 Fu) k t c hcm hb (by omega)
      rw [g1]
      have := m_style_len (nm := nm) (sy := sy) (sp := sp) t c
      obtain ⟨w2, g2, h2⟩ := qU.sg2 k t0 t1 n (c + 1) Fu w1 _ h1 (by omega) (by omega) (by omega) (by simp; omega)
      rw [List.append_assoc] at h2
      rw [List.append_assoc]
      exact ⟨w2, g2, h2⟩
theorem qU.segments (h : qU w0 z0 g0 w F) (k : qR tw th sz dp nm sy sp g0) {t : Int32} (t0 : -1 ≤ t.toInt) (t1 : t.toInt < 24) (hF : F.length + 110 ≤ 40000) : ∃ w', fD_laySegments 37 t w = some (.inl none, w') ∧ qU w0 z0 g0 w' (F ++ m_segs (sz 2).toInt nm sy sp t) := by
  have hn4 := k.2.2.2.2.1
  have em : (-1 : Int32).toInt = -1 := rfl
  exact qU.sg2 k t0 t1 ((sz 2).toInt.toNat + 1) (-1) FUEL w F h (by show _ < 1000000; omega) (by omega) (by omega) (by omega)
end
section
variable {w0 w : PW} {z0 : Nat → Int32} {g0 : Nat → Nat → Int32} {F : List Int32} {tw th : Int32} {sz dp nm sy sp : Nat → Int32}
theorem qU.siz (h : qU w0 z0 g0 w F) (k : qR tw th sz dp nm sy sp g0) : p_ald w 42 0 0 = some (sz 0) ∧ p_ald w 42 0 1 = some (sz 1) ∧ p_ald w 42 0 2 = some (sz 2) ∧ p_ald w 42 0 3 = some tw ∧ p_ald w 42 0 4 = some th := by
  obtain ⟨a0, a1, a2, a3, a4⟩ := k.1
  exact ⟨by rw [a0]; exact h.size 0 (by omega), by rw [a1]; exact h.size 1 (by omega), by rw [a2]; exact h.size 2 (by omega), by rw [a3]; exact h.size 3 (by omega), by rw [a4]; exact h.size 4 (by omega)⟩
theorem qU.dep (h : qU w0 z0 g0 w F) (k : qR tw th sz dp nm sy sp g0) (i : Nat) (hi : i < 4) : p_ald w 41 0 (Int32.ofNat i) = some (dp i) := by
  rw [k.2.1 i hi]
  exact h.ld 41 0 i rfl (by omega) (by omega) (by show i < 8; omega) (by decide) (by decide)
theorem qU.h114 (k : qR tw th sz dp nm sy sp g0) (inn : Int32) : ∀ (n i Fu : Nat) (d : Int32) (w : PW) (F : List Int32), qU w0 z0 g0 w F → n < Fu → (i + n : Int) = (sz 2).toInt → F.length + 30 ≤ 40000 → ∃ w', fD_layHeads_114 Fu 37 inn d (Int32.ofNat i) w = some (.inl none, w') ∧ qU w0 z0 g0 w' (F ++ (b4 inn ++ (b4 1785737832 ++ (b4 22 ++ (b4 1768449138 ++ (b4 (sz 1) ++ (b4 (sz 0) ++ (b2 (sz 2) ++ ([(m_deep dp n i d - 1) &&& 255] ++ ([7] ++ ([0] ++ [0])))))))))))
  | 0, i, Fu + 1, d, w, F, h, _, hi, hF => by
    obtain ⟨-, -, s2, -⟩ := h.siz k
    obtain ⟨f0, o0⟩ := h.O
    have hn4 := k.2.2.2.2.1
    rw [fD_layHeads_114, h.R 7 42 (fun _ => rfl), Option.bind_some, s2, Option.bind_some, if_pos (by rw [q_lei, q_ofi (by omega)]; omega), o0, Option.bind_some, m_deep]
    obtain ⟨w1, g1, h1⟩ := h.layFour inn (by omega)
    obtain ⟨f1, o1⟩ := h1.O
    rw [g1, q_call, q_kV, o1, Option.bind_some]
    obtain ⟨w2, g2, h2⟩ := h1.layFour 1785737832 (by simp [b4_len]; omega)
    obtain ⟨f2, o2⟩ := h2.O
    rw [g2, q_call, q_kV, o2, Option.bind_some]
    obtain ⟨w3, g3, h3⟩ := h2.layFour 22 (by simp [b4_len]; omega)
    obtain ⟨f3, o3⟩ := h3.O
    rw [g3, q_call, q_kV, o3, Option.bind_some]
    obtain ⟨w4, g4, h4⟩ := h3.layFour 1768449138 (by simp [b4_len]; omega)
    obtain ⟨f4, o4⟩ := h4.O
    obtain ⟨-, t4, -⟩ := h4.siz k
    rw [g4, q_call, q_kV, h4.R 7 42 (fun _ => rfl), Option.bind_some, t4, Option.bind_some, o4, Option.bind_some]
    obtain ⟨w5, g5, h5⟩ := h4.layFour (sz 1) (by simp [b4_len]; omega)
    obtain ⟨f5, o5⟩ := h5.O
    obtain ⟨t5, -⟩ := h5.siz k
    rw [g5, q_call, q_kV, h5.R 7 42 (fun _ => rfl), Option.bind_some, t5, Option.bind_some, o5, Option.bind_some]
    obtain ⟨w6, g6, h6⟩ := h5.layFour (sz 0) (by simp [b4_len]; omega)
    obtain ⟨f6, o6⟩ := h6.O
    obtain ⟨-, -, t6, -⟩ := h6.siz k
    rw [g6, q_call, q_kV, h6.R 7 42 (fun _ => rfl), Option.bind_some, t6, Option.bind_some, o6, Option.bind_some]
    obtain ⟨w7, g7, h7⟩ := h6.layTwo (sz 2) (by simp [b4_len]; omega)
    obtain ⟨f7, o7⟩ := h7.O
    rw [g7, q_call, q_kV, o7, Option.bind_some]
    obtain ⟨w8, g8, h8⟩ := h7.lay (d - 1) (by simp [b4_len, b2_len]; omega)
    obtain ⟨f8, o8⟩ := h8.O
    rw [g8, q_call, q_kV, o8, Option.bind_some]
    obtain ⟨w9, g9, h9⟩ := h8.lay 7 (by simp [b4_len, b2_len]; omega)
    obtain ⟨f9, o9⟩ := h9.O
    rw [g9, q_call, q_kV, o9, Option.bind_some]
    obtain ⟨wA, gA, hA⟩ := h9.lay 0 (by simp [b4_len, b2_len]; omega)
    obtain ⟨fA, oA⟩ := hA.O
    rw [gA, q_call, q_kV, oA, Option.bind_some]
    obtain ⟨wB, gB, hB⟩ := hA.lay 0 (by simp [b4_len, b2_len]; omega)
    rw [gB, q_call, q_kV]
    refine ⟨wB, rfl, ?_⟩
    simp only [List.append_assoc] at hB
    exact hB
  | n + 1, i, Fu + 1, d, w, F, h, hFu, hi, hF => by
    obtain ⟨-, -, s2, -⟩ := h.siz k
    have hn4 := k.2.2.2.2.1
    have e1 : Int32.ofNat i + 1 = Int32.ofNat (i + 1) := (Int32.ofNat_add i 1).symm
    have dd := h.dep k i (by omega)
    rw [fD_layHeads_114, h.R 7 42 (fun _ => rfl), Option.bind_some, s2, Option.bind_some, if_neg (by rw [q_lei, q_ofi (by omega)]; omega), h.R 6 41 (fun _ => rfl), Option.bind_some, dd, Option.bind_some, Option.bind_some, m_deep]
    simp only [q_let, dd, Option.bind_some]
    rw [e1]
    have em : (if dp i ≤ d then d else dp i) = p_max d (dp i) := by
      unfold p_max
      grind
    obtain ⟨w', g', h'⟩ := qU.h114 k inn n (i + 1) Fu (p_max d (dp i)) w F h (by omega) (by omega) hF
    refine ⟨w', ?_, h'⟩
    rw [← g', ← em]
    split <;> rfl
theorem m_deep_le {dp : Nat → Int32} : ∀ (n i : Nat) (a b : Int32), (1 ≤ n → p_max a (dp i) = p_max b (dp i)) → (n = 0 → a = b) → m_deep dp n i a = m_deep dp n i b
  | 0, i, a, b, _, h => by rw [h rfl]
  | n + 1, i, a, b, h, _ => by rw [m_deep, m_deep, h (by omega)]
/-- heads of a file without boxes -/
theorem qU.heads0 (h : qU w0 z0 g0 w []) (k : qR tw th sz dp nm sy sp g0) (hz : z0 14 = 0) (hd : ∀ i, i < 4 → 1 ≤ (dp i).toInt) : ∃ w', fD_layHeads 37 w = some (.inl none, w') ∧ qU w0 z0 g0 w' (m_head sz dp []) := by
  unfold fD_layHeads
  have hn4 := k.2.2.2.2.1
  obtain ⟨f0, o0⟩ := h.O
  rw [o0, Option.bind_some]
  obtain ⟨w1, g1, h1⟩ := h.layFour 12 (by simp)
  obtain ⟨f1, o1⟩ := h1.O
  rw [g1, q_call, q_kV, o1, Option.bind_some]
  obtain ⟨w2, g2, h2⟩ := h1.layFour 1783636000 (by simp [b4_len])
  obtain ⟨f2, o2⟩ := h2.O
  rw [g2, q_call, q_kV, o2, Option.bind_some]
  obtain ⟨w3, g3, h3⟩ := h2.lay 13 (by simp [b4_len])
  obtain ⟨f3, o3⟩ := h3.O
  rw [g3, q_call, q_kV, o3, Option.bind_some]
  obtain ⟨w4, g4, h4⟩ := h3.lay 10 (by simp [b4_len])
  obtain ⟨f4, o4⟩ := h4.O
  rw [g4, q_call, q_kV, o4, Option.bind_some]
  obtain ⟨w5, g5, h5⟩ := h4.lay 135 (by simp [b4_len])
  obtain ⟨f5, o5⟩ := h5.O
  rw [g5, q_call, q_kV, o5, Option.bind_some]
  obtain ⟨w6, g6, h6⟩ := h5.lay 10 (by simp [b4_len])
  obtain ⟨f6, o6⟩ := h6.O
  rw [g6, q_call, q_kV, o6, Option.bind_some]
  obtain ⟨w7, g7, h7⟩ := h6.layFour 20 (by simp [b4_len])
  obtain ⟨f7, o7⟩ := h7.O
  rw [g7, q_call, q_kV, o7, Option.bind_some]
  obtain ⟨w8, g8, h8⟩ := h7.layFour 1718909296 (by simp [b4_len])
  obtain ⟨f8, o8⟩ := h8.O
  rw [g8, q_call, q_kV, o8, Option.bind_some]
  obtain ⟨w9, g9, h9⟩ := h8.layFour 1785737760 (by simp [b4_len])
  obtain ⟨f9, o9⟩ := h9.O
  rw [g9, q_call, q_kV, o9, Option.bind_some]
  obtain ⟨wA, gA, hA⟩ := h9.layFour 0 (by simp [b4_len])
  obtain ⟨fA, oA⟩ := hA.O
  rw [gA, q_call, q_kV, oA, Option.bind_some]
  obtain ⟨wB, gB, hB⟩ := hA.layFour 1785737760 (by simp [b4_len])
  rw [gB, q_call, q_kV, show FUEL = 999999 + 1 from rfl, fD_layHeads_73, hB.I 14 (fun _ => rfl) (by decide), Option.bind_some, hz, if_pos (by decide)]
  obtain ⟨wC, gC, hC⟩ := qU.h114 k 30 (sz 2).toInt.toNat 0 FUEL 0 wB _ hB (by show _ < 1000000; omega) (by omega) (by simp [b4_len])
  refine ⟨wC, gC, ?_⟩
  have e1 : m_deep dp (sz 2).toInt.toNat 0 0 = m_deep dp (sz 2).toInt.toNat 0 1 := by
    refine m_deep_le _ _ _ _ (fun _ => ?_) (fun hh => by omega)
    have h8 := hd 0 (by omega)
    have e0' : (0 : Int32).toInt = 0 := rfl
    have e1' : (1 : Int32).toInt = 1 := rfl
    unfold p_max
    by_cases hq : (1 : Int32) < dp 0
    · rw [if_pos hq, if_pos (by rw [q_lti] at *; omega)]
    · rw [if_neg hq, if_pos (by rw [q_lti]; omega)]
      apply q_i32
      rw [q_lti] at hq
      omega
  rw [e1] at hC
  have e2 : [] ++ b4 12 ++ b4 1783636000 ++ [(13 : Int32) &&& 255] ++ [(10 : Int32) &&& 255] ++ [(135 : Int32) &&& 255] ++ [(10 : Int32) &&& 255] ++ b4 20 ++ b4 1718909296 ++ b4 1785737760 ++ b4 0 ++ b4 1785737760 = m_box 1783636000 (b4 218793738) ++ m_box 1718909296 (b4 1785737760 ++ (b4 0 ++ b4 1785737760)) := by decide
  rw [e2, List.append_assoc] at hC
  unfold m_head m_box m_ihdr
  have e3 : ([0] ++ [0] : List Int32) = b2 0 := by decide
  rw [e3] at hC
  unfold m_box at hC
  simp only [List.append_assoc, List.append_nil] at hC ⊢
  exact hC
/-- the stream without parts -/
theorem qU.st107 (k : qR tw th sz dp nm sy sp g0) (hz : z0 8 = 0) : ∀ (n i Fu : Nat) (w : PW) (F : List Int32), qU w0 z0 g0 w F → n < Fu → (i + n : Int) = (sz 2).toInt → F.length + 3 * n + 120 ≤ 40000 → ∃ w', fD_layStream_107 Fu 37 (Int32.ofNat i) w = some (.inl none, w') ∧ qU w0 z0 g0 w' (F ++ (m_deps dp n i ++ (m_segs (sz 2).toInt nm sy sp (-1) ++ [255, 217])))
  | 0, i, Fu + 1, w, F, h, _, hi, hF => by
    obtain ⟨-, -, s2, -⟩ := h.siz k
    obtain ⟨f0, o0⟩ := h.O
    have hn4 := k.2.2.2.2.1
    have hml := m_segs_len (nm := nm) (sy := sy) (sp := sp) (sz 2).toInt (by omega) (-1)
    rw [fD_layStream_107, h.R 7 42 (fun _ => rfl), Option.bind_some, s2, Option.bind_some, if_pos (by rw [q_lei, q_ofi (by omega)]; omega), o0, Option.bind_some, m_deps, List.nil_append]
    obtain ⟨w1, g1, h1⟩ := h.segments k (t := -1) (by decide) (by decide) (by omega)
    obtain ⟨f1, o1⟩ := h1.O
    rw [g1, q_call, q_kV, show FUEL = 999999 + 1 from rfl, fD_layStream_152, h1.I 8 (fun _ => rfl) (by decide), Option.bind_some, hz, if_pos (by decide), o1, Option.bind_some]
    obtain ⟨w2, g2, h2⟩ := h1.lay 255 (by simp; omega)
    obtain ⟨f2, o2⟩ := h2.O
    rw [g2, q_call, q_kV, o2, Option.bind_some]
    obtain ⟨w3, g3, h3⟩ := h2.lay 217 (by simp; omega)
    rw [g3, q_call, q_kV]
    refine ⟨w3, rfl, ?_⟩
    simp only [List.append_assoc] at h3
    exact h3
  | n + 1, i, Fu + 1, w, F, h, hFu, hi, hF => by
    obtain ⟨-, -, s2, -⟩ := h.siz k
    obtain ⟨f0, o0⟩ := h.O
    have hn4 := k.2.2.2.2.1
    have e1 : Int32.ofNat i + 1 = Int32.ofNat (i + 1) := (Int32.ofNat_add i 1).symm
    rw [fD_layStream_107, h.R 7 42 (fun _ => rfl), Option.bind_some, s2, Option.bind_some, if_neg (by rw [q_lei, q_ofi (by omega)]; omega), h.R 6 41 (fun _ => rfl), Option.bind_some, h.dep k i (by omega), Option.bind_some, o0, Option.bind_some]
    obtain ⟨w1, g1, h1⟩ := h.lay (dp i - 1) (by omega)
    obtain ⟨f1, o1⟩ := h1.O
    rw [g1, q_call, q_kV, o1, Option.bind_some]
    obtain ⟨w2, g2, h2⟩ := h1.lay 1 (by simp; omega)
    obtain ⟨f2, o2⟩ := h2.O
    rw [g2, q_call, q_kV, o2, Option.bind_some]
    obtain ⟨w3, g3, h3⟩ := h2.lay 1 (by simp; omega)
    rw [g3, q_call, q_kV, q_let, e1]
    obtain ⟨w4, g4, h4⟩ := qU.st107 k hz n (i + 1) Fu w3 _ h3 (by omega) (by omega) (by simp; omega)
    refine ⟨w4, g4, ?_⟩
    rw [m_deps]
    simp only [List.append_assoc] at h4 ⊢
    exact h4
theorem qU.stream0 (h : qU w0 z0 g0 w F) (k : qR tw th sz dp nm sy sp g0) (hz : z0 8 = 0) (hF : F.length + 200 ≤ 40000) : ∃ w', fD_layStream 37 w = some (.inl none, w') ∧ qU w0 z0 g0 w' (F ++ m_str0 tw th sz dp nm sy sp) := by
  unfold fD_layStream
  have hn4 := k.2.2.2.2.1
  obtain ⟨f0, o0⟩ := h.O
  rw [o0, Option.bind_some]
  obtain ⟨w1, g1, h1⟩ := h.lay 255 (by omega)
  obtain ⟨f1, o1⟩ := h1.O
  rw [g1, q_call, q_kV, o1, Option.bind_some]
  obtain ⟨w2, g2, h2⟩ := h1.lay 79 (by simp; omega)
  obtain ⟨f2, o2⟩ := h2.O
  obtain ⟨-, -, s2, -⟩ := h2.siz k
  rw [g2, q_call, q_kV, h2.R 7 42 (fun _ => rfl), Option.bind_some, s2, Option.bind_some, o2, Option.bind_some]
  obtain ⟨w3, g3, h3⟩ := h2.layMark 81 (38 + 3 * sz 2) (by simp; omega)
  obtain ⟨f3, o3⟩ := h3.O
  rw [g3, q_call, q_kV, o3, Option.bind_some]
  obtain ⟨w4, g4, h4⟩ := h3.layTwo 0 (by simp [b2_len]; omega)
  obtain ⟨f4, o4⟩ := h4.O
  obtain ⟨t4, -⟩ := h4.siz k
  rw [g4, q_call, q_kV, h4.R 7 42 (fun _ => rfl), Option.bind_some, t4, Option.bind_some, o4, Option.bind_some]
  obtain ⟨w5, g5, h5⟩ := h4.layFour (sz 0) (by simp [b2_len]; omega)
  obtain ⟨f5, o5⟩ := h5.O
  obtain ⟨-, t5, -⟩ := h5.siz k
  rw [g5, q_call, q_kV, h5.R 7 42 (fun _ => rfl), Option.bind_some, t5, Option.bind_some, o5, Option.bind_some]
  obtain ⟨w6, g6, h6⟩ := h5.layFour (sz 1) (by simp [b2_len, b4_len]; omega)
  obtain ⟨f6, o6⟩ := h6.O
  rw [g6, q_call, q_kV, o6, Option.bind_some]
  obtain ⟨w7, g7, h7⟩ := h6.layFour 0 (by simp [b2_len, b4_len]; omega)
  obtain ⟨f7, o7⟩ := h7.O
  rw [g7, q_call, q_kV, o7, Option.bind_some]
  obtain ⟨w8, g8, h8⟩ := h7.layFour 0 (by simp [b2_len, b4_len]; omega)
  obtain ⟨f8, o8⟩ := h8.O
  obtain ⟨-, -, -, t8, -⟩ := h8.siz k
  rw [g8, q_call, q_kV, h8.R 7 42 (fun _ => rfl), Option.bind_some, t8, Option.bind_some, o8, Option.bind_some]
  obtain ⟨w9, g9, h9⟩ := h8.layFour tw (by simp [b2_len, b4_len]; omega)
  obtain ⟨f9, o9⟩ := h9.O
  obtain ⟨-, -, -, -, t9⟩ := h9.siz k
  rw [g9, q_call, q_kV, h9.R 7 42 (fun _ => rfl), Option.bind_some, t9, Option.bind_some, o9, Option.bind_some]
  obtain ⟨wA, gA, hA⟩ := h9.layFour th (by simp [b2_len, b4_len]; omega)
  obtain ⟨fA, oA⟩ := hA.O
  rw [gA, q_call, q_kV, oA, Option.bind_some]
  obtain ⟨wB, gB, hB⟩ := hA.layFour 0 (by simp [b2_len, b4_len]; omega)
  obtain ⟨fB, oB⟩ := hB.O
  rw [gB, q_call, q_kV, oB, Option.bind_some]
  obtain ⟨wC, gC, hC⟩ := hB.layFour 0 (by simp [b2_len, b4_len]; omega)
  obtain ⟨fC, oC⟩ := hC.O
  obtain ⟨-, -, tC, -⟩ := hC.siz k
  rw [gC, q_call, q_kV, hC.R 7 42 (fun _ => rfl), Option.bind_some, tC, Option.bind_some, oC, Option.bind_some]
  obtain ⟨wD, gD, hD⟩ := hC.layTwo (sz 2) (by simp [b2_len, b4_len]; omega)
  rw [gD, q_call, q_kV]
  obtain ⟨wE, gE, hE⟩ := qU.st107 k hz (sz 2).toInt.toNat 0 FUEL wD _ hD (by show _ < 1000000; omega) (by omega) (by simp only [List.length_append, b2_len, b4_len, List.length_cons, List.length_nil]; omega)
  refine ⟨wE, gE, ?_⟩
  unfold m_str0 m_sizes
  simp only [List.append_assoc] at hE ⊢
  exact hE
theorem qU.wr23 {K : Nat → Int32 → PW → PX} (h : qU w0 z0 g0 w F) (hz : z0 14 = 0) (a : Int32) : fD_write_23 K FUEL 37 a 0 w = K 37 (a + 1) w := by
  rw [show FUEL = 999999 + 1 from rfl, fD_write_23, h.I 14 (fun _ => rfl) (by decide), Option.bind_some, hz, if_pos (by decide), q_let]
/-- the pointer filled in -/
theorem qU.wr95 {A B : List Int32} (v : Int32) (hA : A.length + 4 ≤ 40000) : ∀ (n i Fu : Nat) (w : PW) (X : List Int32), qU w0 z0 g0 w (A ++ (X ++ B)) → X.length = 4 → n < Fu → i + n = 4 → ∃ w' X', fD_write_95 Fu 37 (Int32.ofNat A.length) v (Int32.ofNat i) w = some (.inl (some (.int (Int32.ofNat (A ++ (X ++ B)).length))), w') ∧ qU w0 z0 g0 w' (A ++ (X' ++ B)) ∧ X'.length = 4 ∧ ∀ j (hj : j < 4) (h1 : j < X'.length) (h2 : j < X.length), X'[j] = if i ≤ j then p_ishr v (24 - 8 * Int32.ofNat j) &&& 255 else X[j]
  | 0, i, Fu + 1, w, X, h, hX, _, hi => by
    have : i = 4 := by omega
    subst this
    rw [fD_write_95, if_pos (by decide), h.C, Option.bind_some]
    exact ⟨w, X, rfl, h, hX, fun j hj h1 h2 => by rw [if_neg (by omega)]⟩
  | n + 1, i, Fu + 1, w, X, h, hX, hFu, hi => by
    have h1 : ¬ (4 : Int32) ≤ Int32.ofNat i := fun k => by
      have := (q_le (m := 4) (n := i) (by omega) (by omega)).mp k
      omega
    have e1 : Int32.ofNat i + 1 = Int32.ofNat (i + 1) := (Int32.ofNat_add i 1).symm
    have e2 : Int32.ofNat A.length + Int32.ofNat i = Int32.ofNat (A.length + i) := (Int32.ofNat_add _ _).symm
    have h0 := h
    obtain ⟨z, g, k1, k2, k3, k4, k5, k6, k7⟩ := h
    rw [fD_write_95, if_neg h1, k1.R 19 52 rfl, Option.bind_some, e2]
    obtain ⟨w1, g1, q1, F1⟩ := k1.stn 52 0 (A.length + i) (p_ishr v (24 - 8 * Int32.ofNat i) &&& 255) rfl (by omega) (by omega) (by show _ < 40000; omega) (by decide)
    rw [g1, Option.bind_some, q_let, e1]
    have hu : qU w0 z0 g0 w1 (A ++ (X.set i (p_ishr v (24 - 8 * Int32.ofNat i) &&& 255) ++ B)) := by
      refine ⟨z, _, q1, k2.tr F1, k3, fun k hk => by rw [ug_ne _ _ _ hk, k4 k hk], by rw [k5]; simp, ?_, by simpa using k7⟩
      have es : A ++ (X.set i (p_ishr v (24 - 8 * Int32.ofNat i) &&& 255) ++ B) = (A ++ (X ++ B)).set (A.length + i) (p_ishr v (24 - 8 * Int32.ofNat i) &&& 255) := by
        rw [List.set_append_right _ _ (by omega), Nat.add_sub_cancel_left, List.set_append_left _ _ (by omega)]
      rw [es]
      intro j hj
      rw [ug_self]
      unfold upd
      rw [List.length_set] at hj
      by_cases e : j = A.length + i
      · subst e
        rw [if_pos rfl, List.getElem_set_self]
      · rw [if_neg e, List.getElem_set_ne (fun k => e k.symm)]
        exact k6 j hj
    obtain ⟨w2, X', g2, h2, l2, t2⟩ := qU.wr95 v hA n (i + 1) Fu w1 _ hu (by simpa using hX) (by omega) (by omega)
    refine ⟨w2, X', ?_, h2, l2, fun j hj a1 a2 => ?_⟩
    · rw [g2]
      simp
    · rw [t2 j hj a1 (by simpa using a2)]
      by_cases c1 : i + 1 ≤ j
      · rw [if_pos c1, if_pos (by omega)]
      · rw [if_neg c1]
        by_cases c2 : j = i
        · subst c2
          rw [if_pos (Nat.le_refl _), List.getElem_set_self]
        · rw [if_neg (by omega), List.getElem_set_ne (fun k => c2 k.symm)]
theorem q_list4 {X : List Int32} {a b c d : Int32} (h : X.length = 4) (h0 : X[0]'(by omega) = a) (h1 : X[1]'(by omega) = b) (h2 : X[2]'(by omega) = c) (h3 : X[3]'(by omega) = d) : X = [a, b, c, d] := by
  match X, h with
  | [x0, x1, x2, x3], _ =>
    simp only [List.getElem_cons_zero, List.getElem_cons_succ] at h0 h1 h2 h3
    rw [h0, h1, h2, h3]
theorem qM.write0 {z : Nat → Int32} {g : Nat → Nat → Int32} (h : qM w z g) (k : qR tw th sz dp nm sy sp g) (hz8 : z 8 = 0) (hz14 : z 14 = 0) (hd : ∀ i, i < 4 → 1 ≤ (dp i).toInt) : ∃ w' z' g', fD_write 37 w = some (.inl (some (.int (Int32.ofNat (m_file0 tw th sz dp nm sy sp (fun _ => 0) (fun _ => 0) (fun _ => []) 0).length))), w') ∧ qM w' z' g' ∧ qI 37 66 w w' ∧ (∀ k, k ≠ 0 → k ≠ 20 → z' k = z k) ∧ (∀ k, k ≠ 52 → g' k = g k) ∧ z' 0 = 0 ∧ z' 20 = Int32.ofNat (m_file0 tw th sz dp nm sy sp (fun _ => 0) (fun _ => 0) (fun _ => []) 0).length ∧ qY g' 52 (m_file0 tw th sz dp nm sy sp (fun _ => 0) (fun _ => 0) (fun _ => []) 0) := by
  unfold fD_write
  obtain ⟨w1, g1, q1, F1⟩ := h.put 0 0 (by omega) rfl
  rw [g1, Option.bind_some]
  obtain ⟨w2, g2, q2, F2⟩ := q1.put 20 0 (by omega) rfl
  rw [g2, Option.bind_some, q2.obj, Option.bind_some]
  have hu : qU w2 (upd (upd z 0 0) 20 0) g w2 [] := ⟨_, _, q2, qI.rf, fun _ _ => rfl, fun _ _ => rfl, rfl, fun i hi => absurd hi (Nat.not_lt_zero i), by simp⟩
  obtain ⟨w3, g3, h3⟩ := hu.heads0 k hz14 hd
  have hz14' : (upd (upd z 0 0) 20 0) 14 = 0 := hz14
  have fu : fD_write_16 FUEL = fD_write_16 (999997 + 1 + 1 + 1) := rfl
  rw [g3, q_call, q_kV, fu, fD_write_16, if_neg (by decide), h3.wr23 hz14', show (0 : Int32) + 1 = 1 from rfl, fD_write_16, if_neg (by decide), h3.wr23 hz14', show (1 : Int32) + 1 = 2 from rfl, fD_write_16, if_pos (by decide), h3.C, Option.bind_some]
  obtain ⟨f3, o3⟩ := h3.O
  rw [o3, Option.bind_some]
  have hl3 : (m_head sz dp []).length = 62 := m_head_len sz dp []
  obtain ⟨w4, g4, h4⟩ := h3.layFour 0 (by omega)
  obtain ⟨f4, o4⟩ := h4.O
  rw [g4, q_call, q_kV, o4, Option.bind_some]
  obtain ⟨w5, g5, h5⟩ := h4.layFour 1785737827 (by simp [b4_len, hl3])
  obtain ⟨f5, o5⟩ := h5.O
  rw [g5, q_call, q_kV, o5, Option.bind_some]
  obtain ⟨w6, g6, h6⟩ := h5.stream0 k hz8 (by simp [b4_len, hl3])
  rw [g6, q_call, q_kV, h6.C, Option.bind_some, q_let]
  rw [show m_head sz dp [] ++ b4 0 ++ b4 1785737827 ++ m_str0 tw th sz dp nm sy sp = m_head sz dp [] ++ (b4 0 ++ (b4 1785737827 ++ m_str0 tw th sz dp nm sy sp)) by simp only [List.append_assoc]] at h6 ⊢
  have hsl : (m_str0 tw th sz dp nm sy sp).length ≤ 300 := by
    have hml := m_segs_len (nm := nm) (sy := sy) (sp := sp) (sz 2).toInt (by have := k.2.2.2.2.1; omega) (-1)
    have := k.2.2.2.2.1
    unfold m_str0
    simp only [List.length_append, m_sizes_len, List.length_cons, List.length_nil]
    omega
  have ev : Int32.ofNat (m_head sz dp [] ++ (b4 0 ++ (b4 1785737827 ++ m_str0 tw th sz dp nm sy sp))).length - Int32.ofNat (m_head sz dp []).length = Int32.ofNat (8 + (m_str0 tw th sz dp nm sy sp).length) := by
    rw [List.length_append, show Int32.ofNat ((m_head sz dp []).length + (b4 0 ++ (b4 1785737827 ++ m_str0 tw th sz dp nm sy sp)).length) = Int32.ofNat (m_head sz dp []).length + Int32.ofNat (b4 0 ++ (b4 1785737827 ++ m_str0 tw th sz dp nm sy sp)).length from Int32.ofNat_add _ _]
    rw [show (b4 0 ++ (b4 1785737827 ++ m_str0 tw th sz dp nm sy sp)).length = 8 + (m_str0 tw th sz dp nm sy sp).length by simp [b4_len]; omega]
    grind
  rw [ev]
  obtain ⟨w7, X', g7, h7, l7, t7⟩ := qU.wr95 (A := m_head sz dp []) (B := b4 1785737827 ++ m_str0 tw th sz dp nm sy sp) (Int32.ofNat (8 + (m_str0 tw th sz dp nm sy sp).length)) (by omega) 4 0 FUEL w6 (b4 0) h6 rfl (by decide) (by omega)
  have eX : X' = b4 (Int32.ofNat (8 + (m_str0 tw th sz dp nm sy sp).length)) := by
    have t0 := t7 0 (by omega) (by omega) (by decide)
    have t1 := t7 1 (by omega) (by omega) (by decide)
    have t2 := t7 2 (by omega) (by omega) (by decide)
    have t3 := t7 3 (by omega) (by omega) (by decide)
    rw [if_pos (by omega)] at t0 t1 t2 t3
    rw [show (24 : Int32) - 8 * Int32.ofNat 0 = 24 from rfl, q_shr _ 24 (by decide)] at t0
    rw [show (24 : Int32) - 8 * Int32.ofNat 1 = 16 from rfl, q_shr _ 16 (by decide)] at t1
    rw [show (24 : Int32) - 8 * Int32.ofNat 2 = 8 from rfl, q_shr _ 8 (by decide)] at t2
    rw [show (24 : Int32) - 8 * Int32.ofNat 3 = 0 from rfl, q_shr _ 0 (by decide)] at t3
    exact q_list4 l7 t0 t1 t2 t3
  have ef : m_head sz dp [] ++ (X' ++ (b4 1785737827 ++ m_str0 tw th sz dp nm sy sp)) = m_file0 tw th sz dp nm sy sp (fun _ => 0) (fun _ => 0) (fun _ => []) 0 := by
    rw [eX]
    rfl
  rw [ef] at h7
  obtain ⟨z', g', a1, a2, a3, a4, a5, a6, a7⟩ := h7
  refine ⟨w7, z', g', ?_, a1, (F1.tr F2).tr a2, fun k h0 h20 => ?_, a4, ?_, a5, a6⟩
  · rw [show fD_write_95 FUEL 37 (Int32.ofNat (m_head sz dp []).length) (Int32.ofNat (8 + (m_str0 tw th sz dp nm sy sp).length)) 0 w6 = _ from g7, ← ef]
    congr 4
    simp [l7, b4_len]
  · rw [a3 k h20]
    unfold upd
    rw [if_neg h20, if_neg h0]
  · rw [a3 0 (by decide)]
    rfl
end
/-- the reader of parts -/
def rT (k : Nat) : Nat := if k = 34 then 2 else 0
def rL (k : Nat) : Nat := if k = 35 then 24 else if k = 36 then 200 else 300
def qPr (w : PW) (lc cnt : Int32) (pa : Nat → Nat → Int32) : Prop := w.1[28]? = some (.inr (6, [.ref 14, .ref 16, .ref 27, .ref 29, .ref 30, .ref 31, .ref 32, .ref 33, .ref 34, .ref 35, .ref 36, .int lc, .int cnt])) ∧ ∀ k, 29 ≤ k → k < 37 → w.1[k]? = some (.inl (rT k, rL k, .inl (pa k)))
section
variable {w : PW} {rd lc cnt : Int32} {pa : Nat → Nat → Int32} {r n : Nat} {L : List Int32} {f : Nat → Int32} {tw th : Int32} {sz dp nm sy sp : Nat → Int32} {z : Nat → Int32} {g : Nat → Nat → Int32}
theorem qPr.fg7 : ∀ (k i F : Nat) (w : PW) (pa : Nat → Nat → Int32), qPr w lc cnt pa → k < F → i + k = 24 → ∃ w' pa', fPartReader_forget_7 F 28 (Int32.ofNat i) w = some (.inl none, w') ∧ qPr w' lc cnt pa' ∧ qI 28 37 w w'
  | 0, i, F + 1, w, pa, h, _, hi => by
    have : i = 24 := by omega
    subst this
    rw [fPartReader_forget_7, if_pos (by decide)]
    exact ⟨w, pa, rfl, h, qI.rf⟩
  | k + 1, i, F + 1, w, pa, h, hF, hi => by
    rw [fPartReader_forget_7, if_neg (fun hh => by have := (q_le (m := 24) (n := i) (by omega) (by omega)).mp hh; omega), q_getR (k := 9) h.1 rfl, Option.bind_some]
    obtain ⟨w1, g1, s1, F1⟩ := o_ast (h.2 35 (by omega) (by omega)) (q_ge0 i (by omega)) (show Int32.ofNat i < Int32.ofNat (rL 35) from (q_lt (m := i) (n := 24) (by omega) (by omega)).mpr (by omega)) (by decide) 0
    rw [show p_ast w 35 0 (Int32.ofNat i) 0 = _ from g1, Option.bind_some, q_let, show Int32.ofNat i + 1 = Int32.ofNat (i + 1) from (Int32.ofNat_add i 1).symm]
    have h1 : qPr w1 lc cnt (ug pa 35 (Int32.ofNat i).toNatClampNeg 0) := by
      refine ⟨F1.at h.1 (by omega), fun j h1 h2 => ?_⟩
      by_cases e : j = 35
      · subst e
        rw [s1, ug_self]
      · rw [F1.at (h.2 j h1 h2) e, ug_ne _ _ _ e]
    obtain ⟨w2, pa', g2, q2, F2⟩ := qPr.fg7 k (i + 1) F w1 _ h1 (by omega) (by omega)
    exact ⟨w2, pa', g2, q2, (F1.i (by omega) (by omega)).tr F2⟩
theorem qPr.forget (h : qPr w lc cnt pa) : ∃ w' pa', fPartReader_forget 28 w = some (.inl none, w') ∧ qPr w' lc 0 pa' ∧ qI 28 37 w w' := by
  unfold fPartReader_forget
  obtain ⟨w1, g1, s1, F1⟩ := o_put (k := 12) h.1 (by simp) (.int 0)
  rw [g1, Option.bind_some]
  have h1 : qPr w1 lc 0 pa := ⟨s1, fun j h1 h2 => F1.at (h.2 j h1 h2) (by omega)⟩
  obtain ⟨w2, pa', g2, q2, F2⟩ := qPr.fg7 24 0 FUEL w1 pa h1 (by decide) (by omega)
  exact ⟨w2, pa', g2, q2, (F1.i (by omega) (by omega)).tr F2⟩
theorem qN.zero {a : Nat} (h : qN w a r n L f) : ∃ w', p_put w a 5 1 (.int 0) = some w' ∧ qN w' a r n [] f ∧ qE a w w' := by
  have hne := h.ne
  obtain ⟨ho, hd, h1, h2, h3⟩ := h
  obtain ⟨w1, g1, s1, F1⟩ := o_put (k := 1) ho (by simp) (.int 0)
  exact ⟨w1, g1, ⟨s1, F1.at hd hne.symm, by simp, h2, fun i hi => absurd hi (Nat.not_lt_zero i)⟩, F1⟩
theorem qN.keep {a : Nat} {w' : PW} (h : qN w a r n L f) (h1 : w'.1[a]? = w.1[a]?) (h2 : w'.1[r]? = w.1[r]?) : qN w' a r n L f := ⟨by rw [h1, h.1], by rw [h2, h.2.1], h.2.2⟩
/-- the class's readers at the world w: r4, r6 the rows of numbers -/
def qRd (w : PW) (co fr en lc cnt : Int32) (pa : Nat → Nat → Int32) (he : Int32) (r4 n4 r6 n6 : Nat) (L4 L6 : List Int32) (f4 f6 : Nat → Int32) : Prop :=
  w.1[22]? = some (.inr (1, [.ref 14, .ref 23, .ref 25, .int co, .int fr, .int en])) ∧ qN w 23 r4 n4 L4 f4 ∧ qN w 25 r6 n6 L6 f6 ∧ w.1[27]? = some (.inr (3, [.ref 14, .ref 16, .int he])) ∧ qPr w lc cnt pa ∧ (r4 = 24 ∨ 67 ≤ r4) ∧ (r6 = 26 ∨ 67 ≤ r6) ∧ r4 ≠ r6
theorem qRd.keep {w' : PW} {co fr en lc cnt : Int32} {pa : Nat → Nat → Int32} {he : Int32} {r4 n4 r6 n6 : Nat} {L4 L6 : List Int32} {f4 f6 : Nat → Int32} (h : qRd w co fr en lc cnt pa he r4 n4 r6 n6 L4 L6 f4 f6) (hk : ∀ x, ((22 ≤ x ∧ x < 37) ∨ x = r4 ∨ x = r6) → w'.1[x]? = w.1[x]?) : qRd w' co fr en lc cnt pa he r4 n4 r6 n6 L4 L6 f4 f6 := by
  obtain ⟨h1, h2, h3, h4, h5, h6⟩ := h
  refine ⟨by rw [hk 22 (by omega), h1], h2.keep (hk 23 (by omega)) (hk r4 (Or.inr (Or.inl rfl))), h3.keep (hk 25 (by omega)) (hk r6 (Or.inr (Or.inr rfl))), by rw [hk 27 (by omega), h4], ⟨by rw [hk 28 (by omega), h5.1], fun k k1 k2 => by rw [hk k (by omega), h5.2 k k1 k2]⟩, h6⟩
theorem q_zero0 (f : Nat → Int32) : q_zero f 0 0 = 0 := by
  rfl
theorem qW_forgetReading {co fr en : Int32} {he : Int32} {r4 n4 r6 n6 : Nat} {L4 L6 : List Int32} {f4 f6 : Nat → Int32} {tr hr : Int32} {szr dpr nmr syr spr : Nat → Int32} (ho : qCo w rd) (hR : qRd w co fr en lc cnt pa he r4 n4 r6 n6 L4 L6 f4 f6) (hs : qS w 16 tr hr szr dpr nmr syr spr) :
    ∃ w' pa' syr' spr', fW_forgetReading 0 w = some (.inl none, w') ∧ qCo w' 0 ∧ qRd w' (-1) fr en lc 0 pa' he r4 n4 r6 n6 [] [] f4 f6 ∧ qS w' 16 tr hr szr dpr nmr syr' spr' ∧ (∀ x, x ≠ 0 → (x < 16 ∨ 37 ≤ x) → w'.1[x]? = w.1[x]?) ∧ w'.2 = w.2 ∧ w'.1.length = w.1.length ∧ syr' 0 = 0 ∧ spr' 0 = 0 := by
  obtain ⟨h22, hn4, hn6, h27, hpr, hr4, hr6, hne⟩ := hR
  unfold fW_forgetReading
  rw [if_neg (not_not_intro (Or.inl rfl))]
  obtain ⟨w1, g1, s1, F1⟩ := o_put (k := 10) ho (by simp) (.int 0)
  have s1' : qCo w1 0 := s1
  have h22a := F1.at h22 (by decide)
  rw [g1, Option.bind_some, q_getR (k := 7) s1' rfl, Option.bind_some, q_obj h22a, Option.bind_some]
  unfold fBoxReader_forget
  have hn4a : qN w1 23 r4 n4 L4 f4 := hn4.keep (F1.2.1 _ (by decide)) (F1.2.1 _ (by omega))
  have hn6a : qN w1 25 r6 n6 L6 f6 := hn6.keep (F1.2.1 _ (by decide)) (F1.2.1 _ (by omega))
  obtain ⟨w2, g2, q2, F2⟩ := hn4a.zero
  have h22b := F2.at h22a (by decide)
  rw [q_getR (k := 1) h22a rfl, Option.bind_some, g2, Option.bind_some, q_getR (k := 2) h22b rfl, Option.bind_some]
  have hn6b : qN w2 25 r6 n6 L6 f6 := hn6a.keep (F2.2.1 _ (by decide)) (F2.2.1 _ (by omega))
  obtain ⟨w3, g3, q3, F3⟩ := hn6b.zero
  have h22c := F3.at h22b (by decide)
  rw [g3, Option.bind_some]
  obtain ⟨w4, g4, s4, F4⟩ := o_put (k := 3) h22c (by simp) (.int (-1))
  rw [g4, Option.bind_some, q_call, q_kV]
  have o4 : qCo w4 0 := F4.at (F3.at (F2.at s1' (by decide)) (by decide)) (by decide)
  have keep4 : ∀ x, x ≠ 0 → x ≠ 22 → x ≠ 23 → x ≠ 25 → w4.1[x]? = w.1[x]? := fun x a1 a2 a3 a4 => by rw [F4.2.1 x a2, F3.2.1 x a4, F2.2.1 x a3, F1.2.1 x a1]
  have hs4 : qS w4 16 tr hr szr dpr nmr syr spr := hs.keep (fun x a b => keep4 x (by omega) (by omega) (by omega) (by omega))
  obtain ⟨fs, so⟩ := hs4.obj
  rw [q_getR (k := 6) o4 rfl, Option.bind_some, so, Option.bind_some]
  obtain ⟨w5, g5, hs5, F5⟩ := hs4.forgetSegments
  rw [g5, q_call, q_kV]
  have o5 : qCo w5 0 := F5.at o4 (by omega)
  have hpr5 : qPr w5 lc cnt pa := ⟨by rw [F5.2.2 28 (by omega), keep4 28 (by decide) (by decide) (by decide) (by decide), hpr.1], fun k k1 k2 => by rw [F5.2.2 k (by omega), keep4 k (by omega) (by omega) (by omega) (by omega), hpr.2 k k1 k2]⟩
  rw [q_getR (k := 9) o5 rfl, Option.bind_some, q_obj hpr5.1, Option.bind_some]
  obtain ⟨w6, pa', g6, hp6, F6⟩ := hpr5.forget
  rw [g6, q_call, q_kV]
  have keep6 : ∀ x, (x < 16 ∨ 22 ≤ x) → (x < 28 ∨ 37 ≤ x) → w6.1[x]? = w4.1[x]? := fun x a1 a2 => by rw [F6.2.2 x a2, F5.2.2 x (by omega)]
  refine ⟨w6, pa', _, _, rfl, F6.at o5 (by omega), ⟨?_, ?_, ?_, ?_, hp6, hr4, hr6, hne⟩, hs5.keep (fun x a b => F6.2.2 x (by omega)), fun x a1 a2 => ?_, ?_, ?_, ?_, ?_⟩
  · rw [keep6 22 (by omega) (by omega), s4]
    rfl
  · refine (q2.keep ?_ ?_)
    · rw [keep6 23 (by omega) (by omega), F4.2.1 23 (by decide), F3.2.1 23 (by decide)]
    · rw [keep6 r4 (by omega) (by omega), F4.2.1 r4 (by omega), F3.2.1 r4 (by omega)]
  · refine (q3.keep ?_ ?_)
    · rw [keep6 25 (by omega) (by omega), F4.2.1 25 (by decide)]
    · rw [keep6 r6 (by omega) (by omega), F4.2.1 r6 (by omega)]
  · rw [keep6 27 (by omega) (by omega), keep4 27 (by decide) (by decide) (by decide) (by decide), h27]
  · rw [keep6 x (by omega) (by omega), keep4 x a1 (by omega) (by omega) (by omega)]
  · rw [F6.2.1, F5.2.1, F4.2.2, F3.2.2, F2.2.2, F1.2.2]
  · rw [F6.1, F5.1, F4.1, F3.1, F2.1, F1.1]
  · exact q_zero0 syr
  · exact q_zero0 spr
/-- a read with nothing fed -/
theorem qW_read0 {co fr en : Int32} {he : Int32} {r4 n4 r6 n6 : Nat} {L4 L6 : List Int32} {f4 f6 : Nat → Int32} {tr hr : Int32} {szr dpr nmr syr spr : Nat → Int32} {rf nf rt nt : Nat} {Lt : List Int32} {ff ft : Nat → Int32} (ho : qCo w rd) (hR : qRd w co fr en lc cnt pa he r4 n4 r6 n6 L4 L6 f4 f6) (hs : qS w 16 tr hr szr dpr nmr syr spr) (hf : qB w 12 rf 20000 nf [] ff) (ht : qB w 14 rt 20000 nt Lt ft) (hrf : rf = 13 ∨ 67 ≤ rf) (hrt : rt = 15 ∨ 67 ≤ rt) (hft : rt ≠ rf) (ht4 : rt ≠ r4) (ht6 : rt ≠ r6) :
    ∃ w', fW_read 0 w = some (.inl (some (.int (-1))), w') ∧ (∀ x, x < w.1.length → x ≠ 0 → x ≠ rt → (x < 14 ∨ 37 ≤ x) → w'.1[x]? = w.1[x]?) ∧ w.1.length ≤ w'.1.length ∧ 3 * w'.2.1 + w.2.2 ≤ 3 * w.2.1 + w'.2.2 ∧ w'.2.2 ≤ w.2.2 + 140000 := by
  unfold fW_read
  rw [q_obj ho, Option.bind_some]
  obtain ⟨w1, pa', syr', spr', g1, o1, R1, s1, K1, c1, l1, -⟩ := qW_forgetReading ho hR hs
  rw [g1, q_call, q_kV, q_getR (k := 5) o1 rfl, Option.bind_some, q_getR (k := 4) o1 rfl, Option.bind_some]
  have hf1 : qB w1 12 rf 20000 nf [] ff := hf.keep (K1 12 (by decide) (by omega)) (K1 rf (by omega) (by omega))
  have ht1 : qB w1 14 rt 20000 nt Lt ft := ht.keep (K1 14 (by decide) (by omega)) (K1 rt (by omega) (by omega))
  rw [q_obj ht1.o, Option.bind_some]
  obtain ⟨w2, r2, n2, g, g2, b2, F2, e2, m2, k2⟩ := ht1.copy hf1 (by decide) hft
  rw [g2, q_call, q_kV]
  have kp : ∀ x, x < w1.1.length → x ≠ 14 → x ≠ rt → w2.1[x]? = w1.1[x]? := fun x a b c => q_keepF F2 a (by rintro (h | h); exact b h; exact c h)
  have l36 : 36 < w1.1.length := q_lt_len (R1.2.2.2.2.1.2 36 (by omega) (by omega))
  have o2 : qCo w2 0 := by
    unfold qCo
    rw [kp 0 (by omega) (by decide) (by omega)]
    exact o1
  have h22 : w2.1[22]? = some (.inr (1, [.ref 14, .ref 23, .ref 25, .int (-1), .int fr, .int en])) := by rw [kp 22 (by omega) (by decide) (by omega), R1.1]
  rw [q_getR (k := 7) o2 rfl, Option.bind_some, q_obj h22, Option.bind_some]
  unfold fBoxReader_findStream
  obtain ⟨w3, g3, s3, F3⟩ := o_put (k := 4) h22 (by simp) (.int 0)
  have r2ne : r2 ≠ 22 := by
    rcases e2 with e | e <;> omega
  have b3 : qB w3 14 r2 20000 n2 [] g := b2.keep (F3.2.1 14 (by decide)) (F3.2.1 r2 r2ne)
  rw [g3, Option.bind_some, q_getR (k := 0) s3 rfl, Option.bind_some, q_getI (k := 2) b3.o rfl, Option.bind_some]
  obtain ⟨w4, g4, s4, F4⟩ := o_put (k := 5) s3 (by simp) (.int (Int32.ofNat ([] : List Int32).length))
  have b4' : qB w4 14 r2 20000 n2 [] g := b3.keep (F4.2.1 14 (by decide)) (F4.2.1 r2 r2ne)
  rw [g4, Option.bind_some, q_getR (k := 0) s4 rfl, Option.bind_some, q_obj b4'.o, Option.bind_some, b4'.get 0, q_call, q_kI]
  rw [if_pos (by decide)]
  unfold fBoxReader_findStream_45 fBoxReader_beginsWithSignature
  rw [q_obj s4, Option.bind_some, q_getR (k := 0) s4 rfl, Option.bind_some, q_getI (k := 2) b4'.o rfl, Option.bind_some, if_pos (by decide), q_ret0, q_call, q_kI, if_pos rfl, q_call, q_kI, if_pos (by decide)]
  unfold fW_read_50
  rw [if_neg (by decide)]
  have c2 : w4.2 = w2.2 := by rw [F4.2.2, F3.2.2]
  have n20 := b2.2.2.2.2.2.2.1
  refine ⟨w4, rfl, fun x a b c d => ?_, ?_, ?_, ?_⟩
  · rw [F4.2.1 x (by omega), F3.2.1 x (by omega), kp x (by omega) (by omega) c, K1 x b (by omega)]
  · rw [F4.1, F3.1]
    have := F2.1
    omega
  · have := F2.2.2
    rw [c1] at this
    rw [c2]
    omega
  · rw [c2]
    rw [c1] at k2
    omega
/-- told, with nothing read -/
def q_told0 (nt : Int32) (n1 n2 n3 n4 n6 : Nat) (what : Int32) : Int32 := if what = 0 then nt else if what = 1 then Int32.ofNat n1 else if what = 2 then Int32.ofNat n2 else if what = 3 then Int32.ofNat n3 else if what = 4 then Int32.ofNat n4 else if what = 5 then 0 else if what = 6 then Int32.ofNat n6 else if what = 7 then 0 else if what = 8 then 0 else -1
theorem qW_told0 {e7 e8 : Value} {P Q : List Nat} {ro no : Nat} {Lo : List Int32} {fo : Nat → Int32} {rf nf : Nat} {Lf : List Int32} {ff : Nat → Int32} {co fr en : Int32} {he : Int32} {r4 n4 r6 n6 : Nat} {L4 L6 : List Int32} {f4 f6 : Nat → Int32} (ho : qCo w rd) (hs : qS w 1 tw th sz dp nm sy sp) (h7 : qL w 7 e7 P) (h8 : qL w 8 e8 Q) (h9 : w.1[9]? = some (.inr (9, [.ref 10]))) (hb : qB w 10 ro 20000 no Lo fo) (hf : qB w 12 rf 20000 nf Lf ff) (hR : qRd w co fr en lc 0 pa he r4 n4 r6 n6 L4 L6 f4 f6) (what : Int32) :
    fW_told 0 what w = some (.inl (some (.int (q_told0 (q_many (sz 0) tw * q_many (sz 1) th) P.length Q.length Lo.length Lf.length L4.length what))), w) := by
  obtain ⟨fs, so⟩ := hs.obj
  obtain ⟨f7, o7⟩ := h7.obj
  obtain ⟨f8, o8⟩ := h8.obj
  unfold fW_told q_told0
  by_cases h0 : what = 0
  · rw [if_pos h0, if_pos h0, q_getR (k := 0) ho rfl, Option.bind_some, so, Option.bind_some, hs.tiles, q_call, q_kI]
  · rw [if_neg h0, if_neg h0]
    by_cases h1 : what = 1
    · rw [if_pos h1, if_pos h1, q_getR (k := 1) ho rfl, Option.bind_some, o7, Option.bind_some, h7.size, q_call, q_kI]
    · rw [if_neg h1, if_neg h1]
      by_cases h2 : what = 2
      · rw [if_pos h2, if_pos h2, q_getR (k := 2) ho rfl, Option.bind_some, o8, Option.bind_some, h8.size, q_call, q_kI]
      · rw [if_neg h2, if_neg h2]
        by_cases h3 : what = 3
        · rw [if_pos h3, if_pos h3, q_getR (k := 3) ho rfl, Option.bind_some, q_getR (k := 0) h9 rfl, Option.bind_some, q_getI (k := 2) hb.o rfl, Option.bind_some]
        · rw [if_neg h3, if_neg h3]
          by_cases h4 : what = 4
          · rw [if_pos h4, if_pos h4, q_getR (k := 4) ho rfl, Option.bind_some, q_getI (k := 2) hf.o rfl, Option.bind_some]
          · rw [if_neg h4, if_neg h4]
            by_cases h5 : what = 5
            · rw [if_pos h5, if_pos h5, q_getR (k := 9) ho rfl, Option.bind_some, q_getI (k := 12) hR.2.2.2.2.1.1 rfl, Option.bind_some]
            · rw [if_neg h5, if_neg h5]
              by_cases h6 : what = 6
              · rw [if_pos h6, if_pos h6, q_getR (k := 7) ho rfl, Option.bind_some, q_getR (k := 1) hR.1 rfl, Option.bind_some, q_getI (k := 1) hR.2.1.1 rfl, Option.bind_some]
              · rw [if_neg h6, if_neg h6]
                by_cases h7' : what = 7
                · rw [if_pos h7', if_pos h7', q_getR (k := 9) ho rfl, Option.bind_some, q_obj hR.2.2.2.2.1.1, Option.bind_some]
                  unfold fPartReader_spoiltOnes
                  rw [show FUEL = 999999 + 1 from rfl, fPartReader_spoiltOnes_4, q_getI (k := 12) hR.2.2.2.2.1.1 rfl, Option.bind_some, if_pos (by decide), q_call, q_kI]
                · rw [if_neg h7', if_neg h7']
                  by_cases h8' : what = 8
                  · rw [if_pos h8', if_pos h8', q_getR (k := 9) ho rfl, Option.bind_some, q_obj hR.2.2.2.2.1.1, Option.bind_some]
                    unfold fPartReader_wholePackets
                    rw [show FUEL = 999999 + 1 from rfl, fPartReader_wholePackets_4, q_getI (k := 12) hR.2.2.2.2.1.1 rfl, Option.bind_some, if_pos (by decide), q_call, q_kI]
                  · rw [if_neg h8', if_neg h8']
theorem qM.told0 (h : qM w z g) (k : qR tw th sz dp nm sy sp g) {n1 n2 n3 n4 n6 : Nat} (z8 : z 8 = Int32.ofNat n1) (z14 : z 14 = Int32.ofNat n2) (z20 : z 20 = Int32.ofNat n3) (z22 : z 22 = Int32.ofNat n4) (z27 : z 27 = Int32.ofNat n6) (z25 : z 25 = 0) (what : Int32) :
    ∃ w', fD_told 37 what w = some (.inl (some (.int (q_told0 (q_many (sz 0) tw * q_many (sz 1) th) n1 n2 n3 n4 n6 what))), w') ∧ qM w' (upd z 0 0) g ∧ qI 37 66 w w' := by
  unfold fD_told
  obtain ⟨w1, g1, q1, F1⟩ := h.put 0 0 (by omega) rfl
  refine ⟨w1, ?_, q1, F1⟩
  have e62 : fD_told_62 37 what 0 0 w1 = some (.inl (some (.int (q_told0 (q_many (sz 0) tw * q_many (sz 1) th) n1 n2 n3 n4 n6 what))), w1) := by
    unfold fD_told_62 q_told0
    by_cases h0 : what = 0
    · rw [if_pos h0, if_pos h0, q1.obj, Option.bind_some, q1.tiles k, q_call, q_kI]
    · rw [if_neg h0, if_neg h0]
      by_cases h1 : what = 1
      · rw [if_pos h1, if_pos h1, q1.I 8 rfl, Option.bind_some, show upd z 0 0 8 = _ from z8]
      · rw [if_neg h1, if_neg h1]
        by_cases h2 : what = 2
        · rw [if_pos h2, if_pos h2, q1.I 14 rfl, Option.bind_some, show upd z 0 0 14 = _ from z14]
        · rw [if_neg h2, if_neg h2]
          by_cases h3 : what = 3
          · rw [if_pos h3, if_pos h3, q1.I 20 rfl, Option.bind_some, show upd z 0 0 20 = _ from z20]
          · rw [if_neg h3, if_neg h3]
            by_cases h4 : what = 4
            · rw [if_pos h4, if_pos h4, q1.I 22 rfl, Option.bind_some, show upd z 0 0 22 = _ from z22]
            · rw [if_neg h4, if_neg h4]
              by_cases h5 : what = 5
              · rw [if_pos h5, if_pos h5, q1.I 25 rfl, Option.bind_some, show upd z 0 0 25 = _ from z25, if_pos rfl]
              · rw [if_neg h5, if_neg h5]
                by_cases h6 : what = 6
                · rw [if_pos h6, if_pos h6, q1.I 27 rfl, Option.bind_some, show upd z 0 0 27 = _ from z27]
                · rw [if_neg h6, if_neg h6]
                  by_cases h7 : what = 7
                  · rw [if_pos h7, if_pos h7]
                  · rw [if_neg h7, if_neg h7]
                    by_cases h8 : what = 8
                    · rw [if_pos h8, if_pos h8]
                    · rw [if_neg h8, if_neg h8]
  rw [g1, Option.bind_some, show FUEL = 999999 + 1 from rfl, fD_told_12, q1.I 30 rfl, Option.bind_some, q1.I 25 rfl, Option.bind_some, show upd z 0 0 25 = _ from z25, if_pos rfl, e62]
  split <;> rfl
/-- the reference's read, nothing fed -/
theorem qM.read0 (h : qM w z g) (z22 : z 22 = 0) : ∃ w', fD_read 37 w = some (.inl (some (.int (-1))), w') ∧ qI 37 66 w w' := by
  unfold fD_read
  obtain ⟨w1, g1, q1, F1⟩ := h.put 0 0 (by omega) rfl
  rw [g1, Option.bind_some, show FUEL = 999999 + 1 from rfl, fD_read_7, q1.I 22 rfl, Option.bind_some, show upd z 0 0 22 = _ from z22, if_pos (by decide), Option.bind_some]
  obtain ⟨w2, g2, q2, F2⟩ := q1.put 24 0 (by omega) rfl
  rw [g2, Option.bind_some, q2.obj, Option.bind_some]
  obtain ⟨w3, gg, g3, q3, -, F3⟩ := q2.begin 125 (Or.inr rfl)
  rw [show fD_begin 37 125 w2 = _ from g3, q_call, q_kV, q3.R 4 39 rfl, Option.bind_some, q_nar0]
  obtain ⟨w4, g4, q4, F4⟩ := q3.st 39 2 125 0 rfl (by omega) (by omega) (by decide) (by decide) (by decide)
  rw [g4, Option.bind_some, q4.R 5 40 rfl, Option.bind_some]
  obtain ⟨w5, g5, q5, F5⟩ := q4.st 40 2 125 0 rfl (by omega) (by omega) (by decide) (by decide) (by decide)
  rw [g5, Option.bind_some]
  obtain ⟨w6, g6, q6, F6⟩ := q5.put 26 (-1) (by omega) rfl
  rw [g6, Option.bind_some]
  obtain ⟨w7, g7, q7, F7⟩ := q6.put 27 0 (by omega) rfl
  rw [g7, Option.bind_some]
  obtain ⟨w8, g8, q8, F8⟩ := q7.put 30 0 (by omega) rfl
  rw [g8, Option.bind_some]
  obtain ⟨w9, g9, q9, F9⟩ := q8.put 41 (-1) (by omega) rfl
  rw [g9, Option.bind_some]
  obtain ⟨wA, gA, qA', FA⟩ := q9.put 39 0 (by omega) rfl
  rw [gA, Option.bind_some, qA'.I 24 rfl, Option.bind_some]
  obtain ⟨wB, gB, qB', FB⟩ := qA'.put 40 0 (by omega) rfl
  rw [show p_put wA 37 10 40 (.int (upd (upd (upd (upd (upd (upd (upd z 0 0) 24 0) 26 (-1)) 27 0) 30 0) 41 (-1)) 39 0 24)) = _ from gB, Option.bind_some]
  have e24 : p_getI wB 37 10 24 = some 0 := qB'.I 24 rfl
  have e41 : p_getI wB 37 10 41 = some (-1) := qB'.I 41 rfl
  rw [e24, Option.bind_some, qB'.obj, Option.bind_some]
  unfold fD_isMark
  rw [if_pos (by decide), q_ret0, q_call, q_kI, if_neg (not_not_intro rfl), qB'.obj, Option.bind_some]
  unfold fD_readBoxes fD_isFirstRight
  rw [qB'.obj, Option.bind_some, e24, Option.bind_some, if_pos (by decide), q_ret0, q_call, q_kI, if_neg (not_not_intro rfl), qB'.obj, Option.bind_some]
  unfold fD_fails
  rw [e41, Option.bind_some, if_neg (not_not_intro (by rfl))]
  obtain ⟨wC, gC, qC, FC⟩ := qB'.put 41 0 (by omega) rfl
  rw [gC, Option.bind_some, q_ret0, q_call, q_kI, q_ret0, q_call, q_kI, if_pos rfl]
  unfold fD_read_130
  rw [if_neg (not_not_intro (Or.inl rfl))]
  obtain ⟨wD, gD, qD, FD⟩ := qC.put 25 0 (by omega) rfl
  have f25 : p_getI wD 37 10 25 = some 0 := qD.I 25 rfl
  have f41 : p_getI wD 37 10 41 = some 0 := qD.I 41 rfl
  rw [gD, Option.bind_some, f25, Option.bind_some, if_pos rfl, f41, Option.bind_some, show (-1 : Int32) - 0 = -1 by decide]
  refine ⟨wD, rfl, ?_⟩
  exact (((((((((((F1.tr F2).tr F3).tr F4).tr F5).tr F6).tr F7).tr F8).tr F9).tr FA).tr FB).tr FC).tr FD
end
