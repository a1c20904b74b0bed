theorem q_tn {i : Int32} : i.toNatClampNeg = i.toInt.toNat := rfl
theorem q_ofi {n : Nat} (h : n < 2147483648) : (Int32.ofNat n).toInt = n := Int32.toInt_ofNat_of_lt h
theorem q_tno {n : Nat} (h : n < 2147483648) : (Int32.ofNat n).toNatClampNeg = n := by rw [q_tn, q_ofi h]; omega
theorem q_lt {m n : Nat} (h : m < 2147483648) (k : n < 2147483648) : Int32.ofNat m < Int32.ofNat n ↔ m < n := by rw [Int32.lt_iff_toInt_lt, q_ofi h, q_ofi k]; omega
theorem q_le {m n : Nat} (h : m < 2147483648) (k : n < 2147483648) : Int32.ofNat m ≤ Int32.ofNat n ↔ m ≤ n := by rw [Int32.le_iff_toInt_le, q_ofi h, q_ofi k]; omega
theorem q_inb {i : Int32} {n : Nat} (h0 : 0 ≤ i) (h : i < Int32.ofNat n) (hn : n < 2147483648) : ¬ (i < 0 ∨ n ≤ i.toNatClampNeg) := by
  have h1 := Int32.lt_iff_toInt_lt.mp h
  have h2 := Int32.le_iff_toInt_le.mp h0
  rw [q_ofi hn] at h1
  rintro (h3 | h3)
  · grind
  · have : n ≤ i.toInt.toNat := h3
    have e0 : (0 : Int32).toInt = 0 := rfl
    omega
theorem q_ald {w : PW} {a t n : Nat} {f : Nat → Int32} {i : Int32} (h : w.1[a]? = some (.inl (t, n, .inl f))) (h0 : 0 ≤ i) (hi : i < Int32.ofNat n) (hn : n < 2147483648) : p_ald w a t i = some (f i.toNatClampNeg) := by
  simp only [p_ald, p_arr, h, if_true, Option.bind_some, if_neg (q_inb h0 hi hn)]
theorem q_ast {w : PW} {a t n : Nat} {f : Nat → Int32} {i x : Int32} (h : w.1[a]? = some (.inl (t, n, .inl f))) (h0 : 0 ≤ i) (hi : i < Int32.ofNat n) (hn : n < 2147483648) : p_ast w a t i x = some (w.1.set a (.inl (t, n, .inl (upd f i.toNatClampNeg x))), w.2) := by
  simp only [p_ast, p_arr, h, if_true, Option.bind_some, if_neg (q_inb h0 hi hn)]
theorem q_len {w : PW} {a t n : Nat} {g} (h : w.1[a]? = some (.inl (t, n, g))) : p_len w a = some (Int32.ofNat n) := by
  simp only [p_len, h]
theorem q_obj {w : PW} {a c : Nat} {fs : List Value} (h : w.1[a]? = some (.inr (c, fs))) : p_obj w a c = some fs := by
  simp only [p_obj, h, if_true]
theorem q_getI {w : PW} {a c k : Nat} {fs : List Value} {v : Int32} (h : w.1[a]? = some (.inr (c, fs))) (hk : fs[k]? = some (.int v)) : p_getI w a c k = some v := by
  simp only [p_getI, q_obj h, Option.bind_some, hk, p_vI]
theorem q_getR {w : PW} {a c k : Nat} {fs : List Value} {v : Nat} (h : w.1[a]? = some (.inr (c, fs))) (hk : fs[k]? = some (.ref v)) : p_getR w a c k = some v := by
  simp only [p_getR, q_obj h, Option.bind_some, hk, p_vR]
theorem q_put {w : PW} {a c k : Nat} {fs : List Value} {v : Value} (h : w.1[a]? = some (.inr (c, fs))) (hk : k < fs.length) : p_put w a c k v = some (w.1.set a (.inr (c, fs.set k v)), w.2) := by
  simp only [p_put, q_obj h, Option.bind_some, if_pos hk]
theorem q_newA {w : PW} {t B n : Nat} {K} (hn : n ≤ 30000000) (hB : B ≤ 8) : p_newA w t B (Int32.ofNat n) K = K w.1.length (w.1 ++ [.inl (t, n, .inl fun _ => 0)], w.2.1 + 1, w.2.2 + n) := by
  unfold p_newA
  have e := q_tno (n := n) (by omega)
  have h9 : n * B ≤ 30000000 * 8 := Nat.mul_le_mul hn hB
  rw [e, if_neg]
  rintro (h | h)
  · have := (q_lt (m := n) (n := 0) (by omega) (by omega)).mp h
    omega
  · omega
theorem q_copy {w : PW} {t : Nat} {ty : FieldType} {a0 a1 n0 n1 n : Nat} {f0 f1 : Nat → Int32} (h0 : w.1[a0]? = some (.inl (t, n0, .inl f0))) (h1 : w.1[a1]? = some (.inl (t, n1, .inl f1))) (hn : n < 2147483648) (k0 : n ≤ n0) (k1 : n ≤ n1) (hf : ∀ i, i < n → fits ty (.int (f0 i)) = true) :
    p_copy w t ty a0 0 a1 0 (Int32.ofNat n) = some (w.1.set a1 (.inl (t, n1, .inl (va_cpy f0 f1 0 0 n))), w.2) := by
  have z : (0 : Int32).toNatClampNeg = 0 := rfl
  have z2 : ¬ (0 : Int32) < 0 := by decide
  have z3 : ¬ Int32.ofNat n < 0 := fun h => absurd ((q_lt (m := n) (n := 0) hn (by omega)).mp h) (Nat.not_lt_zero _)
  simp only [p_copy, p_arr, h0, h1, if_true, Option.bind_some, q_tno hn, z]
  rw [if_pos]
  refine ⟨⟨z2, z2, z3, by omega, by omega⟩, fun i hi => ?_⟩
  rw [Nat.zero_add]
  exact hf i hi
theorem q_lt_len {w : PW} {a : Nat} {x} (h : w.1[a]? = some x) : a < w.1.length := (List.getElem?_eq_some_iff.mp h).1
theorem q_call {rv w1 K} : p_call (some (.inl rv, w1)) K = K rv w1 := rfl
theorem q_kI {K v w} : p_kI K (some (.int v)) w = K v w := rfl
theorem q_kJ {K v w} : p_kJ K (some (.long v)) w = K v w := rfl
theorem q_kR {K v w} : p_kR K (some (.ref v)) w = K v w := rfl
theorem q_kV {K w} : p_kV K none w = K w := rfl
theorem q_ret1 {w} : p_retZ 1 w = some (.inl (some (.int 1)), w) := rfl
theorem q_ret0 {w} : p_retZ 0 w = some (.inl (some (.int 0)), w) := rfl
/-- the rest of the world stays -/
def qF (P : Nat → Prop) (w w' : PW) : Prop := w.1.length ≤ w'.1.length ∧ (∀ x, x < w.1.length → ¬ P x → w'.1[x]? = w.1[x]?) ∧ 3 * w'.2.1 + w.2.2 ≤ 3 * w.2.1 + w'.2.2
theorem qF.rf {P : Nat → Prop} {w : PW} : qF P w w := ⟨Nat.le_refl _, fun _ _ _ => rfl, Nat.le_refl _⟩
theorem qF.tr {P Q : Nat → Prop} {w w' w'' : PW} (h : qF P w w') (k : qF Q w' w'') (hQ : ∀ x, x < w.1.length → Q x → P x) : qF P w w'' := by
  obtain ⟨h1, h2, h3⟩ := h
  obtain ⟨k1, k2, k3⟩ := k
  refine ⟨by omega, fun x hx hp => ?_, by omega⟩
  rw [k2 x (by omega) (fun hq => hp (hQ x hx hq)), h2 x hx hp]
theorem qF.at {P : Nat → Prop} {w w' : PW} (h : qF P w w') {x : Nat} {y} (hx : w.1[x]? = some y) (hp : ¬ P x) : w'.1[x]? = some y := by
  rw [h.2.1 x (q_lt_len hx) hp, hx]
theorem qF.set {w : PW} {a : Nat} {x} : qF (fun y => y = a) w (w.1.set a x, w.2) := by
  refine ⟨by simp, fun y hy hp => ?_, Nat.le_refl _⟩
  show (w.1.set a x)[y]? = _
  rw [List.getElem?_set_ne (fun h => hp h.symm)]
theorem q_set_self {w : PW} {a : Nat} {x y} (h : w.1[a]? = some y) : (w.1.set a x)[a]? = some x := List.getElem?_set_self (q_lt_len h)
theorem q_set_ne {l : List va_E} {a b : Nat} {x} (h : a ≠ b) : (l.set a x)[b]? = l[b]? := List.getElem?_set_ne h
/-- a row of bytes -/
def qB (w : PW) (a r mo n : Nat) (L : List Int32) (f : Nat → Int32) : Prop :=
  w.1[a]? = some (.inr (2, [.int (Int32.ofNat mo), .ref r, .int (Int32.ofNat L.length)])) ∧ w.1[r]? = some (.inl (1, n, .inl f)) ∧ L.length ≤ n ∧ L.length ≤ mo ∧ (mo = 20000 ∨ mo = 300 ∨ mo = 40) ∧
  (n = mo ∨ n = 32 ∨ n = 64 ∨ n = 128 ∨ n = 256 ∨ n = 512 ∨ n = 1024 ∨ n = 2048 ∨ n = 4096 ∨ n = 8192 ∨ n = 16384) ∧ n ≤ mo ∧ (∀ i, fits .byte (.int (f i)) = true) ∧ ∀ i (h : i < L.length), f i &&& 255 = L[i]
theorem qB.o {w : PW} {a r mo n : Nat} {L : List Int32} {f : Nat → Int32} (h : qB w a r mo n L f) : w.1[a]? = some (.inr (2, [.int (Int32.ofNat mo), .ref r, .int (Int32.ofNat L.length)])) := h.1
theorem qB.d {w : PW} {a r mo n : Nat} {L : List Int32} {f : Nat → Int32} (h : qB w a r mo n L f) : w.1[r]? = some (.inl (1, n, .inl f)) := h.2.1
theorem qB.ne {w : PW} {a r mo n : Nat} {L : List Int32} {f : Nat → Int32} (h : qB w a r mo n L f) : a ≠ r := by
  intro e
  have h1 := h.o
  rw [e, h.d] at h1
  cases h1
theorem qB.get {w : PW} {a r mo n : Nat} {L : List Int32} {f : Nat → Int32} (h : qB w a r mo n L f) (i : Int32) : fBytes_get a i w = some (.inl (some (.int (if i < 0 then -1 else L[i.toNatClampNeg]?.getD (-1)))), w) := by
  have h9 := h.2.2.2.2.2.2.2.2
  obtain ⟨ho, hd, h1, h2, h3, h4, h5, h6, -⟩ := h
  unfold fBytes_get
  rw [q_getI ho rfl, q_getR ho rfl]
  by_cases hi : i < 0
  · simp only [hi, if_true]
  · simp only [hi, if_false, Option.bind_some]
    have i0 : 0 ≤ i.toInt := by
      have : ¬ i.toInt < (0 : Int32).toInt := fun h => hi (Int32.lt_iff_toInt_lt.mpr h)
      have e0 : (0 : Int32).toInt = 0 := rfl
      omega
    have e1 : Int32.ofNat L.length ≤ i ↔ L.length ≤ i.toNatClampNeg := by
      rw [Int32.le_iff_toInt_le, q_ofi (by omega), q_tn]
      omega
    by_cases hc : L.length ≤ i.toNatClampNeg
    · rw [if_pos (e1.mpr hc), List.getElem?_eq_none hc]; rfl
    · rw [if_neg (fun h => hc (e1.mp h))]
      have hlt : i < Int32.ofNat n := by
        rw [Int32.lt_iff_toInt_lt, q_ofi (by omega)]
        rw [q_tn] at hc
        omega
      rw [q_ald hd (by grind) hlt (by omega)]
      simp only [Option.bind_some]
      rw [h9 _ (by omega), List.getElem?_eq_getElem (by omega)]; rfl

/-- one byte more -/
def q_app (mo : Nat) (L : List Int32) (b : Int32) : List Int32 := if L.length < mo then L ++ [b &&& 255] else L
theorem q_b8 (b : Int32) : vp_nar .byte (p_i2b b) &&& 255 = b &&& 255 := by
  show b.toInt8.toInt32.toInt8.toInt32 &&& 255 = b &&& 255
  apply Int32.toBitVec_inj.mp
  simp only [Int32.toBitVec_and, Int8.toBitVec_toInt32, Int32.toBitVec_toInt8]
  ext i hi
  simp only [BitVec.getElem_and, BitVec.getElem_signExtend]
  by_cases h8 : i < 8
  · simp [h8, hi]
  · have : (255 : Int32).toBitVec[i] = false := by
      have e : ∀ j : Nat, j < 32 → 8 ≤ j → (255 : Int32).toBitVec.getLsbD j = false := by decide
      exact e i hi (by omega)
    rw [this, Bool.and_false, Bool.and_false]
theorem q_b8f (b : Int32) : fits .byte (.int (vp_nar .byte (p_i2b b))) = true := by
  show (decide (-128 ≤ b.toInt8.toInt32.toInt8.toInt32) && decide (b.toInt8.toInt32.toInt8.toInt32 ≤ 127)) = true
  rw [Bool.and_eq_true, decide_eq_true_iff, decide_eq_true_iff, Int32.le_iff_toInt_le, Int32.le_iff_toInt_le, Int8.toInt_toInt32]
  have h1 := Int8.le_toInt b.toInt8.toInt32.toInt8
  have h2 := Int8.toInt_le b.toInt8.toInt32.toInt8
  exact ⟨h1, h2⟩
/-- one place changed; one cell more -/
def qE (a : Nat) (w w' : PW) : Prop := w'.1.length = w.1.length ∧ (∀ x, x ≠ a → w'.1[x]? = w.1[x]?) ∧ w'.2 = w.2
def qA (k : Nat) (w w' : PW) : Prop := w'.1.length = w.1.length + 1 ∧ (∀ x, x < w.1.length → w'.1[x]? = w.1[x]?) ∧ w'.2.1 = w.2.1 + 1 ∧ w'.2.2 = w.2.2 + k
theorem qE.at {a x : Nat} {w w' : PW} {y} (h : qE a w w') (hx : w.1[x]? = some y) (hne : x ≠ a) : w'.1[x]? = some y := by rw [h.2.1 x hne, hx]
theorem qA.at {k x : Nat} {w w' : PW} {y} (h : qA k w w') (hx : w.1[x]? = some y) : w'.1[x]? = some y := by rw [h.2.1 x (q_lt_len hx), hx]
theorem qE.fr {a : Nat} {w w' : PW} (h : qE a w w') : qF (fun x => x = a) w w' := ⟨by rw [h.1]; exact Nat.le_refl _, fun x _ hp => h.2.1 x hp, by rw [h.2.2]; exact Nat.le_refl _⟩
theorem qA.fr {k : Nat} {w w' : PW} (h : qA k w w') (hk : 3 ≤ k) : qF (fun _ => False) w w' := ⟨by rw [h.1]; omega, fun x hx _ => h.2.1 x hx, by rw [h.2.2.1, h.2.2.2]; omega⟩
theorem o_put {w : PW} {a c k : Nat} {fs : List Value} (h : w.1[a]? = some (.inr (c, fs))) (hk : k < fs.length) (v : Value) : ∃ w', p_put w a c k v = some w' ∧ w'.1[a]? = some (.inr (c, fs.set k v)) ∧ qE a w w' :=
  ⟨_, q_put h hk, q_set_self h, List.length_set, fun x hx => q_set_ne hx.symm, rfl⟩
theorem o_ast {w : PW} {a t n : Nat} {f : Nat → Int32} {i : Int32} (h : w.1[a]? = some (.inl (t, n, .inl f))) (h0 : 0 ≤ i) (hi : i < Int32.ofNat n) (hn : n < 2147483648) (x : Int32) : ∃ w', p_ast w a t i x = some w' ∧ w'.1[a]? = some (.inl (t, n, .inl (upd f i.toNatClampNeg x))) ∧ qE a w w' :=
  ⟨_, q_ast h h0 hi hn, q_set_self h, List.length_set, fun x hx => q_set_ne hx.symm, rfl⟩
theorem o_copy {w : PW} {t : Nat} {ty : FieldType} {a0 a1 n0 n1 n : Nat} {f0 f1 : Nat → Int32} (h0 : w.1[a0]? = some (.inl (t, n0, .inl f0))) (h1 : w.1[a1]? = some (.inl (t, n1, .inl f1))) (hn : n < 2147483648) (k0 : n ≤ n0) (k1 : n ≤ n1) (hf : ∀ i, i < n → fits ty (.int (f0 i)) = true) : ∃ w', p_copy w t ty a0 0 a1 0 (Int32.ofNat n) = some w' ∧ w'.1[a1]? = some (.inl (t, n1, .inl (va_cpy f0 f1 0 0 n))) ∧ qE a1 w w' :=
  ⟨_, q_copy h0 h1 hn k0 k1 hf, q_set_self h1, List.length_set, fun x hx => q_set_ne hx.symm, rfl⟩
theorem o_newA (w : PW) (t B n : Nat) (hn : n ≤ 30000000) (hB : B ≤ 8) : ∃ w', (∀ K, p_newA w t B (Int32.ofNat n) K = K w.1.length w') ∧ w'.1[w.1.length]? = some (.inl (t, n, .inl fun _ => 0)) ∧ qA n w w' := by
  refine ⟨_, fun K => q_newA hn hB, ?_, ?_, fun x hx => ?_, rfl, rfl⟩
  · show (w.1 ++ [_])[w.1.length]? = _
    rw [List.getElem?_append_right (Nat.le_refl _), Nat.sub_self]; rfl
  · simp
  · exact List.getElem?_append_left hx
theorem o_newO (w : PW) (c N : Nat) (fs : List Value) : ∃ w', (∀ K, p_newO w c N fs K = K w.1.length w') ∧ w'.1[w.1.length]? = some (.inr (c, fs)) ∧ qA N w w' := by
  refine ⟨_, fun K => rfl, ?_, ?_, fun x hx => ?_, rfl, rfl⟩
  · show (w.1 ++ [_])[w.1.length]? = _
    rw [List.getElem?_append_right (Nat.le_refl _), Nat.sub_self]; rfl
  · simp
  · exact List.getElem?_append_left hx
theorem qF.mono {P Q : Nat → Prop} {w w' : PW} (h : qF P w w') (hQ : ∀ x, x < w.1.length → P x → Q x) : qF Q w w' := ⟨h.1, fun x hx hq => h.2.1 x hx (fun hp => hq (hQ x hx hp)), h.2.2⟩
theorem q_ge0 (n : Nat) (h : n < 2147483648) : 0 ≤ Int32.ofNat n := (q_le (m := 0) (by omega) h).mpr (Nat.zero_le _)
theorem qB.app50 {w : PW} {a r mo n : Nat} {L : List Int32} {f : Nat → Int32} (h : qB w a r mo n L f) (b : Int32) (hl : L.length < mo) (hn : L.length < n) :
    ∃ w' f', fBytes_append_50 a b w = some (.inl (some (.int 1)), w') ∧ qB w' a r mo n (L ++ [b &&& 255]) f' ∧ qF (fun x => x = a ∨ x = r) w w' ∧ w'.2 = w.2 := by
  have hne := h.ne
  obtain ⟨ho, hd, h1, h2, h3, h4, h5, h6, h7⟩ := h
  have e1 : (Int32.ofNat L.length).toNatClampNeg = L.length := q_tno (by omega)
  unfold fBytes_append_50
  rw [q_getR ho rfl, Option.bind_some, q_getI ho rfl, Option.bind_some]
  obtain ⟨w1, g1, s1, F1⟩ := o_ast hd (q_ge0 _ (by omega)) ((q_lt (m := L.length) (by omega) (by omega)).mpr hn) (by omega) (vp_nar .byte (p_i2b b))
  rw [g1, Option.bind_some]
  have ho1 := F1.at ho hne
  rw [q_getI ho1 rfl, Option.bind_some]
  obtain ⟨w2, g2, s2, F2⟩ := o_put (k := 2) ho1 (by simp) (.int (Int32.ofNat L.length + 1))
  rw [g2, Option.bind_some, q_ret1]
  have hd2 := F2.at s1 hne.symm
  rw [e1] at hd2
  refine ⟨w2, _, rfl, ⟨?_, hd2, by simp; omega, by simp; omega, h3, h4, h5, fun i => ?_, fun i hi => ?_⟩, ?_, F2.2.2.trans F1.2.2⟩
  · rw [s2, List.length_append, show Int32.ofNat (L.length + [b &&& 255].length) = Int32.ofNat L.length + 1 from Int32.ofNat_add _ _]
    rfl
  · unfold upd
    split
    · exact q_b8f b
    · exact h6 i
  · unfold upd
    by_cases hi2 : i = L.length
    · rw [if_pos hi2, q_b8]
      subst hi2
      simp
    · rw [if_neg hi2, h7 i (by simp at hi; omega), List.getElem_append_left]
  · exact (F1.fr.mono (fun _ _ h => Or.inr h)).tr F2.fr (fun _ _ h => Or.inl h)
theorem q_fr2 {a r : Nat} {w w1 w2 : PW} {r' : Nat} (h : qF (fun x => x = a) w w1) (k : qF (fun x => x = a ∨ x = r') w1 w2) (hr : r' = r ∨ w.1.length ≤ r') : qF (fun x => x = a ∨ x = r) w w2 := by
  obtain ⟨h1, h2, h3⟩ := h
  obtain ⟨k1, k2, k3⟩ := k
  refine ⟨by omega, fun x hx hp => ?_, by omega⟩
  rw [k2 x (by omega) (by rintro (e | e); exact hp (Or.inl e); rcases hr with e' | e'; exact hp (Or.inr (e.trans e')); omega), h2 x hx (fun e => hp (Or.inl e))]
theorem q_min {m n : Nat} (h : m < 2147483648) (k : n < 2147483648) : p_min (Int32.ofNat m) (Int32.ofNat n) = Int32.ofNat (min m n) := by
  unfold p_min
  simp only [q_lt k h]
  split
  · rw [Nat.min_eq_right (by omega)]
  · rw [Nat.min_eq_left (by omega)]
theorem qB.append {w : PW} {a r mo n : Nat} {L : List Int32} {f : Nat → Int32} (h : qB w a r mo n L f) (b : Int32) :
    ∃ v w' r' n' f', fBytes_append a b w = some (.inl (some (.int v)), w') ∧ v = (if L.length < mo then 1 else 0) ∧ qB w' a r' mo n' (q_app mo L b) f' ∧ qF (fun x => x = a ∨ x = r) w w' ∧ (r' = r ∨ w.1.length ≤ r') ∧ n ≤ n' ∧ w'.2.2 + 7 * n ≤ w.2.2 + 7 * n' := by
  have h0 := h
  have hne := h.ne
  obtain ⟨ho, hd, h1, h2, h3, h4, h5, h6, h7⟩ := h
  have eI0 : p_getI w a 2 0 = some (Int32.ofNat mo) := q_getI ho rfl
  have eI2 : p_getI w a 2 2 = some (Int32.ofNat L.length) := q_getI ho rfl
  have eR1 : p_getR w a 2 1 = some r := q_getR ho rfl
  have eL := q_len hd
  have ha : a < w.1.length := q_lt_len ho
  have hr : r < w.1.length := q_lt_len hd
  unfold fBytes_append q_app
  simp only [eI0, eI2, eR1, eL, Option.bind_some, q_lt (m := L.length) (n := mo) (by omega) (by omega), q_lt (m := L.length) (n := n) (by omega) (by omega)]
  by_cases hm : L.length < mo
  · simp only [hm, if_true]
    by_cases hn : L.length < n
    · simp only [hn, if_true]
      obtain ⟨w', f', g1, g2, g3, g4⟩ := h0.app50 b hm hn
      exact ⟨1, w', r, n, f', g1, rfl, g2, g3, Or.inl rfl, Nat.le_refl _, by rw [g4]; exact Nat.le_refl _⟩
    · simp only [hn, if_false]
      have eN : L.length = n := by omega
      have e2 : (2 : Int32) * Int32.ofNat n = Int32.ofNat (2 * n) := (Int32.ofNat_mul 2 n).symm
      rw [e2, q_min (by omega) (by omega)]
      have hn2 : n < min mo (2 * n) := by omega
      generalize hN : min mo (2 * n) = n2 at *
      have hn3 : n2 ≤ 20000 := by omega
      have hn4 : n2 + 7 * n ≤ 7 * n2 := by omega
      have hpw : n2 = mo ∨ n2 = 32 ∨ n2 = 64 ∨ n2 = 128 ∨ n2 = 256 ∨ n2 = 512 ∨ n2 = 1024 ∨ n2 = 2048 ∨ n2 = 4096 ∨ n2 = 8192 ∨ n2 = 16384 := by omega
      unfold fAR_copyOf2
      have e3 : Int32.ofNat n2 ≠ Int32.ofNat n := fun e => by
        have := congrArg Int32.toNatClampNeg e
        rw [q_tno (by omega), q_tno (by omega)] at this
        omega
      simp only [eL, Option.bind_some, e3, not_false_eq_true, if_true]
      obtain ⟨w1, g1, s1, F1⟩ := o_newA w 1 1 n2 (by omega) (by omega)
      rw [g1]
      have hd1 := F1.at hd
      rw [q_len hd1, Option.bind_some, q_min (by omega) (by omega), Nat.min_eq_left (by omega)]
      obtain ⟨w2, g2, s2, F2⟩ := o_copy (ty := .byte) (n := n) hd1 s1 (by omega) (Nat.le_refl _) (by omega) (fun i _ => h6 i)
      rw [g2, Option.bind_some, q_call, q_kR]
      have ho2 := F2.at (F1.at ho) (by omega)
      obtain ⟨w3, g3, s3, F3⟩ := o_put (k := 1) ho2 (by simp) (.ref w.1.length)
      rw [g3, Option.bind_some]
      have hB : qB w3 a w.1.length mo n2 L (va_cpy f (fun _ => 0) 0 0 n) := by
        refine ⟨s3, F3.at s2 (by omega), by omega, h2, h3, hpw, by omega, fun i => ?_, fun i hi => ?_⟩
        · unfold va_cpy
          split
          · exact h6 _
          · rfl
        · unfold va_cpy
          rw [if_pos (by omega), ← h7 i hi]
          congr 2
          omega
      obtain ⟨w', f', k1, k2, k3, k4⟩ := hB.app50 b hm (by omega)
      refine ⟨1, w', w.1.length, n2, f', k1, rfl, k2, ?_, Or.inr (Nat.le_refl _), by omega, by rw [k4, F3.2.2, F2.2.2, F1.2.2.2]; omega⟩
      exact q_fr2 (r' := w.1.length) ((((F1.fr (by omega)).mono (Q := fun x => x = a) (fun _ _ h => h.elim)).tr F2.fr (fun x hx h => by omega)).tr F3.fr (fun _ _ h => h)) k3 (Or.inr (Nat.le_refl _))
  · simp only [hm, if_false]
    exact ⟨0, w, r, n, f, rfl, rfl, h0, qF.rf, Or.inl rfl, Nat.le_refl _, Nat.le_refl _⟩

/-- a row of bytes, as it came of the world w0 -/
def qBS (a : Nat) (w0 : PW) (r0 n0 mo : Nat) (w : PW) (L : List Int32) : Prop := ∃ r n f, qB w a r mo n L f ∧ qF (fun x => x = a ∨ x = r0) w0 w ∧ (r = r0 ∨ w0.1.length ≤ r) ∧ n0 ≤ n ∧ w.2.2 + 7 * n0 ≤ w0.2.2 + 7 * n
theorem qB.bs {w : PW} {a r mo n : Nat} {L : List Int32} {f : Nat → Int32} (h : qB w a r mo n L f) : qBS a w r n mo w L := ⟨r, n, f, h, qF.rf, Or.inl rfl, Nat.le_refl _, Nat.le_refl _⟩
theorem qBS.append {a r0 n0 mo : Nat} {w0 w : PW} {L : List Int32} (h : qBS a w0 r0 n0 mo w L) (b : Int32) : ∃ v w', fBytes_append a b w = some (.inl (some (.int v)), w') ∧ v = (if L.length < mo then 1 else 0) ∧ qBS a w0 r0 n0 mo w' (q_app mo L b) := by
  obtain ⟨r, n, f, h1, h2, h3, h4, h5⟩ := h
  obtain ⟨v, w', r', n', f', k1, k2, k3, k4, k5, k6, k7⟩ := h1.append b
  refine ⟨v, w', k1, k2, r', n', f', k3, ?_, ?_, by omega, by omega⟩
  · refine h2.tr k4 (fun x hx hp => ?_)
    rcases hp with e | e
    · exact Or.inl e
    · rcases h3 with e' | e'
      · exact Or.inr (e.trans e')
      · omega
  · have := h2.1
    rcases k5 with e | e
    · rw [e]; exact h3
    · right; omega
theorem qBS.obj {a r0 n0 mo : Nat} {w0 w : PW} {L : List Int32} (h : qBS a w0 r0 n0 mo w L) : ∃ fs, p_obj w a 2 = some fs := by
  obtain ⟨r, n, f, h1, -⟩ := h
  exact ⟨_, q_obj h1.o⟩
theorem qBS.count {a r0 n0 mo : Nat} {w0 w : PW} {L : List Int32} (h : qBS a w0 r0 n0 mo w L) : p_getI w a 2 2 = some (Int32.ofNat L.length) := by
  obtain ⟨r, n, f, h1, -⟩ := h
  exact q_getI h1.o rfl
theorem qBS.get {a r0 n0 mo : Nat} {w0 w : PW} {L : List Int32} (h : qBS a w0 r0 n0 mo w L) (i : Int32) : fBytes_get a i w = some (.inl (some (.int (if i < 0 then -1 else L[i.toNatClampNeg]?.getD (-1)))), w) := by
  obtain ⟨r, n, f, h1, -⟩ := h
  exact h1.get i
theorem q_and255 (x : Int32) : x &&& 255 &&& 255 = x &&& 255 := by
  apply Int32.toBitVec_inj.mp
  simp only [Int32.toBitVec_and, BitVec.and_assoc, BitVec.and_self]
theorem q_app255 (mo : Nat) (L : List Int32) (b : Int32) : q_app mo L (b &&& 255) = q_app mo L b := by
  unfold q_app
  rw [q_and255]
def q_apn (mo : Nat) (v : Int32) (L : List Int32) : List Int32 → List Int32
  | [] => L
  | s :: t => q_apn mo v (q_app mo L (p_ushr v s)) t
theorem qBS.apn1 {a r0 n0 mo : Nat} {w0 w : PW} {L : List Int32} (h : qBS a w0 r0 n0 mo w L) (v s : Int32) (hs : ¬ s < 0) (n : Nat) : ∃ w', fBytes_appendNumber_7 (n + 1) a v s w = fBytes_appendNumber_7 n a v (s + (-8)) w' ∧ qBS a w0 r0 n0 mo w' (q_app mo L (p_ushr v s)) := by
  obtain ⟨fs, ho⟩ := h.obj
  obtain ⟨v9, w', k1, k2, k3⟩ := h.append (p_ushr v s &&& 255)
  refine ⟨w', ?_, by rw [q_app255] at k3; exact k3⟩
  rw [fBytes_appendNumber_7, if_neg hs, ho, Option.bind_some, k1]
  rfl
theorem qBS.apn4 {a r0 n0 mo : Nat} {w0 w : PW} {L : List Int32} (h : qBS a w0 r0 n0 mo w L) (v : Int32) : ∃ w', fBytes_appendNumber a v 4 w = some (.inl none, w') ∧ qBS a w0 r0 n0 mo w' (q_apn mo v L [24, 16, 8, 0]) := by
  obtain ⟨w1, e1, h1⟩ := h.apn1 v 24 (by decide) 999999
  obtain ⟨w2, e2, h2⟩ := h1.apn1 v 16 (by decide) 999998
  obtain ⟨w3, e3, h3⟩ := h2.apn1 v 8 (by decide) 999997
  obtain ⟨w4, e4, h4⟩ := h3.apn1 v 0 (by decide) 999996
  refine ⟨w4, ?_, h4⟩
  show fBytes_appendNumber_7 (999999 + 1) a v 24 w = _
  rw [e1, show (24 : Int32) + (-8) = 16 from rfl, show (999999 : Nat) = 999998 + 1 from rfl, e2, show (16 : Int32) + (-8) = 8 from rfl, show (999998 : Nat) = 999997 + 1 from rfl, e3, show (8 : Int32) + (-8) = 0 from rfl, show (999997 : Nat) = 999996 + 1 from rfl, e4, show (999996 : Nat) = 999995 + 1 from rfl, fBytes_appendNumber_7, if_pos (by decide)]
theorem qBS.apn2 {a r0 n0 mo : Nat} {w0 w : PW} {L : List Int32} (h : qBS a w0 r0 n0 mo w L) (v : Int32) : ∃ w', fBytes_appendNumber a v 2 w = some (.inl none, w') ∧ qBS a w0 r0 n0 mo w' (q_apn mo v L [8, 0]) := by
  obtain ⟨w1, e1, h1⟩ := h.apn1 v 8 (by decide) 999999
  obtain ⟨w2, e2, h2⟩ := h1.apn1 v 0 (by decide) 999998
  refine ⟨w2, ?_, h2⟩
  show fBytes_appendNumber_7 (999999 + 1) a v 8 w = _
  rw [e1, show (8 : Int32) + (-8) = 0 from rfl, show (999999 : Nat) = 999998 + 1 from rfl, e2, show (999998 : Nat) = 999997 + 1 from rfl, fBytes_appendNumber_7, if_pos (by decide)]
theorem q_top (a : Int32) : a.toInt < 2147483648 := Int32.toInt_lt a
theorem q_bot (a : Int32) : -2147483648 ≤ a.toInt := Int32.le_toInt a
theorem q_add {a b : Int32} (h1 : -2147483648 ≤ a.toInt + b.toInt) (h2 : a.toInt + b.toInt < 2147483648) : (a + b).toInt = a.toInt + b.toInt := by
  rw [Int32.toInt_add]
  exact Int.bmod_eq_of_le (by omega) (by omega)
theorem q_sub {a b : Int32} (h1 : -2147483648 ≤ a.toInt - b.toInt) (h2 : a.toInt - b.toInt < 2147483648) : (a - b).toInt = a.toInt - b.toInt := by
  rw [Int32.toInt_sub]
  exact Int.bmod_eq_of_le (by omega) (by omega)
theorem q_mul {a b : Int32} (h1 : -2147483648 ≤ a.toInt * b.toInt) (h2 : a.toInt * b.toInt < 2147483648) : (a * b).toInt = a.toInt * b.toInt := by
  rw [Int32.toInt_mul]
  exact Int.bmod_eq_of_le (by omega) (by omega)
/-- one byte put, four bytes put -/
def q_setb (L : List Int32) (i b : Int32) : List Int32 := if i < 0 then L else L.set i.toNatClampNeg (b &&& 255)
theorem q_nn {i : Int32} (h : ¬ i < 0) : 0 ≤ i.toInt := by
  have : ¬ i.toInt < (0 : Int32).toInt := fun k => h (Int32.lt_iff_toInt_lt.mpr k)
  have e0 : (0 : Int32).toInt = 0 := rfl
  omega
theorem q_ile {i : Int32} {n : Nat} (h : ¬ i < 0) (hn : n < 2147483648) : Int32.ofNat n ≤ i ↔ n ≤ i.toNatClampNeg := by
  have := q_nn h
  rw [Int32.le_iff_toInt_le, q_ofi hn, q_tn]
  omega
theorem q_ilt {i : Int32} {n : Nat} (h : ¬ i < 0) (hn : n < 2147483648) : i < Int32.ofNat n ↔ i.toNatClampNeg < n := by
  have := q_nn h
  rw [Int32.lt_iff_toInt_lt, q_ofi hn, q_tn]
  omega
theorem q_0le {i : Int32} (h : ¬ i < 0) : 0 ≤ i := by grind
theorem qB.put {w : PW} {a r mo n : Nat} {L : List Int32} {f : Nat → Int32} (h : qB w a r mo n L f) (i b : Int32) :
    ∃ w' f', fBytes_put a i b w = some (.inl none, w') ∧ qB w' a r mo n (q_setb L i b) f' ∧ qE r w w' := by
  have h0 := h
  have hne := h.ne
  obtain ⟨ho, hd, h1, h2, h3, h4, h5, h6, h7⟩ := h
  unfold fBytes_put q_setb
  by_cases hi : i < 0
  · simp only [hi, if_true]
    exact ⟨w, f, rfl, h0, rfl, fun _ _ => rfl, rfl⟩
  · have eI2 : p_getI w a 2 2 = some (Int32.ofNat L.length) := q_getI ho rfl
    have eR1 : p_getR w a 2 1 = some r := q_getR ho rfl
    simp only [hi, if_false, eI2, eR1, Option.bind_some, q_ile hi (show L.length < 2147483648 by omega)]
    by_cases hc : L.length ≤ i.toNatClampNeg
    · simp only [hc, if_true]
      rw [List.set_eq_of_length_le hc]
      exact ⟨w, f, rfl, h0, rfl, fun _ _ => rfl, rfl⟩
    · simp only [hc, if_false]
      obtain ⟨w1, g1, s1, F1⟩ := o_ast hd (q_0le hi) ((q_ilt hi (by omega)).mpr (by omega)) (by omega) (vp_nar .byte (p_i2b b))
      rw [g1, Option.bind_some]
      refine ⟨w1, _, rfl, ⟨?_, s1, by simpa using h1, by simpa using h2, h3, h4, h5, fun j => ?_, fun j hj => ?_⟩, F1⟩
      · rw [List.length_set]
        exact F1.at ho hne
      · unfold upd
        split
        · exact q_b8f b
        · exact h6 j
      · unfold upd
        rw [List.length_set] at hj
        by_cases e : j = i.toNatClampNeg
        · rw [if_pos e, q_b8]
          subst e
          rw [List.getElem_set_self]
        · rw [if_neg e, h7 j hj, List.getElem_set_ne (fun k => e k.symm)]
theorem qBS.put {a r0 n0 mo : Nat} {w0 w : PW} {L : List Int32} (h : qBS a w0 r0 n0 mo w L) (i b : Int32) : ∃ w', fBytes_put a i b w = some (.inl none, w') ∧ qBS a w0 r0 n0 mo w' (q_setb L i b) := by
  obtain ⟨r, n, f, h1, h2, h3, h4, h5⟩ := h
  obtain ⟨w', f', k1, k2, k3⟩ := h1.put i b
  refine ⟨w', k1, r, n, f', k2, ?_, h3, h4, by rw [k3.2.2]; exact h5⟩
  refine h2.tr k3.fr (fun x hx hp => ?_)
  rcases h3 with e | e
  · exact Or.inr (hp.trans e)
  · have : x = r := hp
    omega
theorem q_setb255 (L : List Int32) (i b : Int32) : q_setb L i (b &&& 255) = q_setb L i b := by
  unfold q_setb
  rw [q_and255]
def q_set4 (L : List Int32) (i v : Int32) : List Int32 := q_setb (q_setb (q_setb (q_setb L (i + 0) (p_ushr v 24)) (i + 1) (p_ushr v 16)) (i + 2) (p_ushr v 8)) (i + 3) (p_ushr v 0)
theorem qBS.put1 {a r0 n0 mo : Nat} {w0 w : PW} {L : List Int32} (h : qBS a w0 r0 n0 mo w L) (i v s : Int32) (hs : ¬ 4 ≤ s) (n : Nat) : ∃ w', fBytes_putNumber4_2 (n + 1) a i v s w = fBytes_putNumber4_2 n a i v (s + 1) w' ∧ qBS a w0 r0 n0 mo w' (q_setb L (i + s) (p_ushr v (24 - 8 * s))) := by
  obtain ⟨fs, ho⟩ := h.obj
  obtain ⟨w', k1, k3⟩ := h.put (i + s) (p_ushr v (24 - 8 * s) &&& 255)
  refine ⟨w', ?_, by rw [q_setb255] at k3; exact k3⟩
  rw [fBytes_putNumber4_2, if_neg hs, ho, Option.bind_some, k1]
  rfl
theorem qBS.put4 {a r0 n0 mo : Nat} {w0 w : PW} {L : List Int32} (h : qBS a w0 r0 n0 mo w L) (i v : Int32) : ∃ w', fBytes_putNumber4 a i v w = some (.inl none, w') ∧ qBS a w0 r0 n0 mo w' (q_set4 L i v) := by
  obtain ⟨w1, e1, h1⟩ := h.put1 i v 0 (by decide) 999999
  obtain ⟨w2, e2, h2⟩ := h1.put1 i v 1 (by decide) 999998
  obtain ⟨w3, e3, h3⟩ := h2.put1 i v 2 (by decide) 999997
  obtain ⟨w4, e4, h4⟩ := h3.put1 i v 3 (by decide) 999996
  refine ⟨w4, ?_, h4⟩
  show fBytes_putNumber4_2 (999999 + 1) a i v 0 w = _
  rw [e1, show (0 : Int32) + 1 = 1 from rfl, show (999999 : Nat) = 999998 + 1 from rfl, e2, show (1 : Int32) + 1 = 2 from rfl, show (999998 : Nat) = 999997 + 1 from rfl, e3, show (2 : Int32) + 1 = 3 from rfl, show (999997 : Nat) = 999996 + 1 from rfl, e4, show (999996 : Nat) = 999995 + 1 from rfl, fBytes_putNumber4_2, if_pos (by decide)]
theorem q_set4_len (L : List Int32) (i v : Int32) : (q_set4 L i v).length = L.length := by
  unfold q_set4 q_setb
  (repeat' split) <;> simp
/-- numbers in several bytes -/
def q_byte (L : List Int32) (i : Int32) : Int32 := if i < 0 then -1 else L[i.toNatClampNeg]?.getD (-1)
def q_num (L : List Int32) (i : Int32) : Nat → Int32 → Int64 → Int64
  | 0, _, v => v
  | n + 1, k, v => q_num L i n (k + 1) (v * 256 + Int32.toInt64 (p_max 0 (q_byte L (i + k))))
theorem qB.number {w : PW} {a r mo n : Nat} {L : List Int32} {f : Nat → Int32} (h : qB w a r mo n L f) (i m : Int32) : ∀ (j : Nat) (k : Int32) (v : Int64) (F : Nat), j < F → 0 ≤ k → k.toInt + j = m.toInt → fBytes_number_5 F a i m v k w = some (.inl (some (.long (q_num L i j k v))), w)
  | 0, k, v, F + 1, _, h0, hk => by
    rw [fBytes_number_5, if_pos]
    · rfl
    · rw [Int32.le_iff_toInt_le]; omega
  | j + 1, k, v, F + 1, hF, h0, hk => by
    have h1 : ¬ m ≤ k := by rw [Int32.le_iff_toInt_le]; omega
    have h2 : (k + 1).toInt = k.toInt + 1 := by
      have e1 : (1 : Int32).toInt = 1 := rfl
      have := q_top m
      have := q_bot k
      rw [q_add (by omega) (by omega), e1]
    rw [fBytes_number_5, if_neg h1, q_obj h.o, Option.bind_some, h.get]
    show fBytes_number_5 F a i m _ (k + 1) w = _
    rw [qB.number h i m j (k + 1) _ F (by omega) (by rw [Int32.le_iff_toInt_le] at *; omega) (by omega)]
    rfl
theorem qB.num4 {w : PW} {a r mo n : Nat} {L : List Int32} {f : Nat → Int32} (h : qB w a r mo n L f) (i : Int32) : fBytes_number a i 4 w = some (.inl (some (.long (q_num L i 4 0 0))), w) := h.number i 4 4 0 0 FUEL (by decide) (by decide) rfl
theorem qB.num2 {w : PW} {a r mo n : Nat} {L : List Int32} {f : Nat → Int32} (h : qB w a r mo n L f) (i : Int32) : fBytes_number a i 2 w = some (.inl (some (.long (q_num L i 2 0 0))), w) := h.number i 2 2 0 0 FUEL (by decide) (by decide) rfl
theorem qB.copy24 {w : PW} {a r mo n : Nat} {L : List Int32} {f : Nat → Int32} {b s n' : Nat} {L' : List Int32} {f' : Nat → Int32} (h : qB w a r mo n L f) (k : qB w b s mo n' L' f') (hab : a ≠ b) (hrs : r ≠ s) (hn : L'.length ≤ n) :
    ∃ w' g, fBytes_copy_24 a b w = some (.inl none, w') ∧ qB w' a r mo n L' g ∧ qF (fun x => x = a ∨ x = r) w w' ∧ w'.2 = w.2 := by
  have hne := h.ne
  have h0 := k
  obtain ⟨ho, hd, h1, h2, h3, h4, h5, h6, h7⟩ := h
  obtain ⟨ko, kd, k1, k2, k3, k4, k5, k6, k7⟩ := k
  have hbr : b ≠ r := fun e => by rw [e, hd] at ko; cases ko
  unfold fBytes_copy_24
  rw [q_getR ko rfl, Option.bind_some, q_getR ho rfl, Option.bind_some, q_getI ko rfl, Option.bind_some]
  obtain ⟨w1, g1, s1, F1⟩ := o_copy (ty := .byte) (n := L'.length) kd hd (by omega) (by omega) (by omega) (fun i _ => k6 i)
  rw [g1, Option.bind_some]
  have ko1 := F1.at ko hbr
  have ho1 := F1.at ho hne
  rw [q_getI ko1 rfl, Option.bind_some]
  obtain ⟨w2, g2, s2, F2⟩ := o_put (k := 2) ho1 (by simp) (.int (Int32.ofNat L'.length))
  rw [g2, Option.bind_some]
  refine ⟨w2, _, rfl, ⟨s2, F2.at s1 hne.symm, hn, k2, h3, h4, h5, fun i => ?_, fun i hi => ?_⟩, (F1.fr.mono (fun _ _ h => Or.inr h)).tr F2.fr (fun _ _ h => Or.inl h), F2.2.2.trans F1.2.2⟩
  · unfold va_cpy
    split
    · exact k6 _
    · exact h6 _
  · unfold va_cpy
    rw [if_pos (by omega), ← k7 i hi]
    congr 2
    omega
theorem qB.copy {w : PW} {a r mo n : Nat} {L : List Int32} {f : Nat → Int32} {b s n' : Nat} {L' : List Int32} {f' : Nat → Int32} (h : qB w a r mo n L f) (k : qB w b s mo n' L' f') (hab : a ≠ b) (hrs : r ≠ s) :
    ∃ w' r2 n2 g, fBytes_copy a b w = some (.inl none, w') ∧ qB w' a r2 mo n2 L' g ∧ qF (fun x => x = a ∨ x = r) w w' ∧ (r2 = r ∨ w.1.length ≤ r2) ∧ n ≤ n2 ∧ w'.2.2 + 7 * n ≤ w.2.2 + 7 * n2 := by
  have hh := h
  have kk := k
  have hne := h.ne
  obtain ⟨ho, hd, h1, h2, h3, h4, h5, h6, h7⟩ := h
  obtain ⟨ko, kd, k1, k2, k3, k4, k5, k6, k7⟩ := k
  have ha : a < w.1.length := q_lt_len ho
  have hr : r < w.1.length := q_lt_len hd
  have hs : s < w.1.length := q_lt_len kd
  have hb : b < w.1.length := q_lt_len ko
  have has : a ≠ s := fun e => by rw [e, kd] at ho; cases ho
  unfold fBytes_copy
  have eR : p_getR w a 2 1 = some r := q_getR ho rfl
  have eS : p_getR w b 2 1 = some s := q_getR ko rfl
  simp only [eR, eS, q_len hd, q_len kd, Option.bind_some, q_le (m := n') (n := n) (by omega) (by omega)]
  by_cases hn : n' ≤ n
  · simp only [hn, if_true]
    obtain ⟨w', g, g1, g2, g3, g4⟩ := hh.copy24 kk hab hrs (by omega)
    exact ⟨w', r, n, g, g1, g2, g3, Or.inl rfl, Nat.le_refl _, by rw [g4]; exact Nat.le_refl _⟩
  · simp only [hn, if_false]
    obtain ⟨w1, g1, s1, F1⟩ := o_newA w 1 1 n' (by omega) (by omega)
    rw [g1]
    have ho1 := F1.at ho
    obtain ⟨w2, g2, s2, F2⟩ := o_put (k := 1) ho1 (by simp) (.ref w.1.length)
    rw [g2, Option.bind_some]
    have b1 : qB w2 b s mo n' L' f' := ⟨F2.at (F1.at ko) hab.symm, F2.at (F1.at kd) has.symm, k1, k2, k3, k4, k5, k6, k7⟩
    have ho2 : w2.1[a]? = some (.inr (2, [.int (Int32.ofNat mo), .ref w.1.length, .int (Int32.ofNat L.length)])) := s2
    have hd2 : w2.1[w.1.length]? = some (.inl (1, n', .inl fun _ => 0)) := F2.at s1 (by omega)
    have hbr : b ≠ w.1.length := by omega
    unfold fBytes_copy_24
    rw [q_getR b1.o rfl, Option.bind_some, q_getR ho2 rfl, Option.bind_some, q_getI b1.o rfl, Option.bind_some]
    obtain ⟨w3, g3, s3, F3⟩ := o_copy (ty := .byte) (n := L'.length) b1.d hd2 (by omega) (by omega) (by omega) (fun i _ => k6 i)
    rw [g3, Option.bind_some]
    have ko3 := F3.at b1.o hbr
    have ho3 := F3.at ho2 (by omega)
    rw [q_getI ko3 rfl, Option.bind_some]
    obtain ⟨w4, g4, s4, F4⟩ := o_put (k := 2) ho3 (by simp) (.int (Int32.ofNat L'.length))
    rw [g4, Option.bind_some]
    refine ⟨w4, w.1.length, n', _, rfl, ⟨s4, F4.at s3 (by omega), by omega, k2, h3, k4, k5, fun i => ?_, fun i hi => ?_⟩, ?_, Or.inr (Nat.le_refl _), by omega, ?_⟩
    · unfold va_cpy
      split
      · exact k6 _
      · rfl
    · unfold va_cpy
      rw [if_pos (by omega), ← k7 i hi]
      congr 2
      omega
    · exact ((((F1.fr (by omega)).mono (Q := fun x => x = a ∨ x = r) (fun _ _ h => h.elim)).tr F2.fr (fun _ _ h => Or.inl h)).tr F3.fr (fun x hx h => by omega)).tr F4.fr (fun _ _ h => Or.inl h)
    · rw [F4.2.2, F3.2.2, F2.2.2, F1.2.2.2]
      omega
/-- a row of numbers -/
def qN (w : PW) (a r n : Nat) (L : List Int32) (f : Nat → Int32) : Prop :=
  w.1[a]? = some (.inr (5, [.ref r, .int (Int32.ofNat L.length)])) ∧ w.1[r]? = some (.inl (0, n, .inl f)) ∧ L.length ≤ n ∧
  (n = 8 ∨ n = 16 ∨ n = 32 ∨ n = 64 ∨ n = 128 ∨ n = 256 ∨ n = 512 ∨ n = 1024 ∨ n = 2048 ∨ n = 4096) ∧ ∀ i (h : i < L.length), f i = L[i]
theorem qN.ne {w : PW} {a r n : Nat} {L : List Int32} {f : Nat → Int32} (h : qN w a r n L f) : a ≠ r := by
  intro e
  have h1 := h.1
  rw [e, h.2.1] at h1
  cases h1
theorem qN.get {w : PW} {a r n : Nat} {L : List Int32} {f : Nat → Int32} (h : qN w a r n L f) (i : Int32) : fNumbers_get a i w = some (.inl (some (.int (q_byte L i))), w) := by
  obtain ⟨ho, hd, h1, h2, h3⟩ := h
  unfold fNumbers_get q_byte
  by_cases hi : i < 0
  · simp only [hi, if_true]
  · simp only [hi, if_false, q_getI (k := 1) ho rfl, q_getR (k := 0) ho rfl, Option.bind_some, q_ile hi (show L.length < 2147483648 by omega)]
    by_cases hc : L.length ≤ i.toNatClampNeg
    · rw [if_pos hc, List.getElem?_eq_none hc]; rfl
    · rw [if_neg hc, q_ald hd (q_0le hi) ((q_ilt hi (by omega)).mpr (by omega)) (by omega)]
      simp only [Option.bind_some]
      rw [h3 _ (by omega), List.getElem?_eq_getElem (by omega)]; rfl
theorem qN.app30 {w : PW} {a r n : Nat} {L : List Int32} {f : Nat → Int32} (h : qN w a r n L f) (b : Int32) (hn : L.length < n) :
    ∃ w' f', fNumbers_append_30 a b w = some (.inl none, w') ∧ qN w' a r n (L ++ [b]) f' ∧ qF (fun x => x = a ∨ x = r) w w' ∧ w'.2 = w.2 := by
  have hne := h.ne
  obtain ⟨ho, hd, h1, h2, h7⟩ := h
  have e1 : (Int32.ofNat L.length).toNatClampNeg = L.length := q_tno (by omega)
  unfold fNumbers_append_30
  rw [q_getR ho rfl, Option.bind_some, q_getI ho rfl, Option.bind_some]
  obtain ⟨w1, g1, s1, F1⟩ := o_ast hd (q_ge0 _ (by omega)) ((q_lt (m := L.length) (by omega) (by omega)).mpr hn) (by omega) b
  rw [g1, Option.bind_some]
  have ho1 := F1.at ho hne
  rw [q_getI ho1 rfl, Option.bind_some]
  obtain ⟨w2, g2, s2, F2⟩ := o_put (k := 1) ho1 (by simp) (.int (Int32.ofNat L.length + 1))
  rw [g2, Option.bind_some]
  have hd2 := F2.at s1 hne.symm
  rw [e1] at hd2
  refine ⟨w2, _, rfl, ⟨?_, hd2, by simp; omega, h2, fun i hi => ?_⟩, ?_, F2.2.2.trans F1.2.2⟩
  · rw [s2, List.length_append, show Int32.ofNat (L.length + [b].length) = Int32.ofNat L.length + 1 from Int32.ofNat_add _ _]
    rfl
  · unfold upd
    by_cases hi2 : i = L.length
    · rw [if_pos hi2]
      subst hi2
      simp
    · rw [if_neg hi2, h7 i (by simp at hi; omega), List.getElem_append_left]
  · exact (F1.fr.mono (fun _ _ h => Or.inr h)).tr F2.fr (fun _ _ h => Or.inl h)
theorem qN.append {w : PW} {a r n : Nat} {L : List Int32} {f : Nat → Int32} (h : qN w a r n L f) (b : Int32) (hL : L.length < 2600) :
    ∃ w' r' n' f', fNumbers_append a b w = some (.inl none, w') ∧ qN w' a r' n' (L ++ [b]) f' ∧ qF (fun x => x = a ∨ x = r) w w' ∧ (r' = r ∨ w.1.length ≤ r') ∧ n ≤ n' ∧ w'.2.2 + 7 * n ≤ w.2.2 + 7 * n' := by
  have h0 := h
  have hne := h.ne
  obtain ⟨ho, hd, h1, h2, h7⟩ := h
  have eI : p_getI w a 5 1 = some (Int32.ofNat L.length) := q_getI ho rfl
  have eR : p_getR w a 5 0 = some r := q_getR ho rfl
  have eL := q_len hd
  have ha : a < w.1.length := q_lt_len ho
  have hr : r < w.1.length := q_lt_len hd
  unfold fNumbers_append
  simp only [eI, eR, eL, Option.bind_some, q_lt (m := L.length) (n := n) (by omega) (by omega)]
  by_cases hn : L.length < n
  · simp only [hn, if_true]
    obtain ⟨w', f', g1, g2, g3, g4⟩ := h0.app30 b hn
    exact ⟨w', r, n, f', g1, g2, g3, Or.inl rfl, Nat.le_refl _, by rw [g4]; exact Nat.le_refl _⟩
  · simp only [hn, if_false]
    have e2 : (2 : Int32) * Int32.ofNat n = Int32.ofNat (2 * n) := (Int32.ofNat_mul 2 n).symm
    rw [e2]
    unfold fAR_copyOf4
    have e3 : Int32.ofNat (2 * n) ≠ Int32.ofNat n := fun e => by
      have := congrArg Int32.toNatClampNeg e
      rw [q_tno (by omega), q_tno (by omega)] at this
      omega
    simp only [eL, Option.bind_some, e3, not_false_eq_true, if_true]
    obtain ⟨w1, g1, s1, F1⟩ := o_newA w 0 4 (2 * n) (by omega) (by omega)
    rw [g1]
    have hd1 := F1.at hd
    rw [q_len hd1, Option.bind_some, q_min (by omega) (by omega), Nat.min_eq_left (by omega)]
    obtain ⟨w2, g2, s2, F2⟩ := o_copy (ty := .int) (n := n) hd1 s1 (by omega) (Nat.le_refl _) (by omega) (fun i _ => rfl)
    rw [g2, Option.bind_some, q_call, q_kR]
    have ho2 := F2.at (F1.at ho) (by omega)
    obtain ⟨w3, g3, s3, F3⟩ := o_put (k := 0) ho2 (by simp) (.ref w.1.length)
    rw [g3, Option.bind_some]
    have hB : qN w3 a w.1.length (2 * n) L (va_cpy f (fun _ => 0) 0 0 n) := by
      refine ⟨s3, F3.at s2 (by omega), by omega, by omega, fun i hi => ?_⟩
      unfold va_cpy
      rw [if_pos (by omega), ← h7 i hi]
      congr 1
      omega
    obtain ⟨w', f', k1, k2, k3, k4⟩ := hB.app30 b (by omega)
    refine ⟨w', w.1.length, 2 * n, f', k1, k2, ?_, Or.inr (Nat.le_refl _), by omega, by rw [k4, F3.2.2, F2.2.2, F1.2.2.2]; omega⟩
    exact q_fr2 (r' := w.1.length) ((((F1.fr (by omega)).mono (Q := fun x => x = a) (fun _ _ h => h.elim)).tr F2.fr (fun x hx h => by omega)).tr F3.fr (fun _ _ h => h)) k3 (Or.inr (Nat.le_refl _))
/-- the settings -/
def qS (w : PW) (b : Nat) (tw th : Int32) (sz dp nm sy sp : Nat → Int32) : Prop :=
  w.1[b]? = some (.inr (7, [.ref (b + 1), .ref (b + 2), .ref (b + 3), .ref (b + 4), .ref (b + 5), .int tw, .int th])) ∧
  w.1[b + 1]? = some (.inl (0, 3, .inl sz)) ∧ w.1[b + 2]? = some (.inl (0, 4, .inl dp)) ∧ w.1[b + 3]? = some (.inl (0, 875, .inl nm)) ∧ w.1[b + 4]? = some (.inl (2, 125, .inl sy)) ∧ w.1[b + 5]? = some (.inl (2, 125, .inl sp)) ∧
  (∀ i, sy i = 0 ∨ sy i = 1) ∧ ∀ i, sp i = 0 ∨ sp i = 1
theorem qS.keep {w w' : PW} {b : Nat} {tw th : Int32} {sz dp nm sy sp : Nat → Int32} (h : qS w b tw th sz dp nm sy sp) (hk : ∀ x, b ≤ x → x < b + 6 → w'.1[x]? = w.1[x]?) : qS w' b tw th sz dp nm sy sp := by
  obtain ⟨h0, h1, h2, h3, h4, h5, h6⟩ := h
  exact ⟨by rw [hk b (by omega) (by omega), h0], by rw [hk (b + 1) (by omega) (by omega), h1], by rw [hk (b + 2) (by omega) (by omega), h2], by rw [hk (b + 3) (by omega) (by omega), h3], by rw [hk (b + 4) (by omega) (by omega), h4], by rw [hk (b + 5) (by omega) (by omega), h5], h6⟩
def q_row (t : Int32) : Int32 := if t < 0 then 0 else if 24 ≤ t then 0 else t + 1
def q_col (c : Int32) : Int32 := if c < 0 then 0 else if 4 ≤ c then 0 else c + 1
def q_slot (t c : Int32) : Int32 := q_row t * 5 + q_col c
theorem q_slotOf (t c : Int32) (w : PW) : fSettings_slotOf t c w = some (.inl (some (.int (q_slot t c))), w) := by
  unfold fSettings_slotOf fSettings_slotOf_17 fSettings_slotOf_34 q_slot q_row q_col
  (repeat' split) <;> rfl
theorem q_row_b (t : Int32) : 0 ≤ q_row t ∧ q_row t < 25 := by unfold q_row; grind
theorem q_col_b (t : Int32) : 0 ≤ q_col t ∧ q_col t < 5 := by unfold q_col; grind
theorem q_slot_b (t c : Int32) : 0 ≤ q_slot t c ∧ q_slot t c < 125 := by
  have := q_row_b t
  have := q_col_b c
  unfold q_slot
  grind
theorem q_slot0 (t c : Int32) : 0 ≤ q_slot t c := (q_slot_b t c).1
theorem q_slot1 (t c : Int32) : q_slot t c < Int32.ofNat 125 := (q_slot_b t c).2
def q_many (x s : Int32) : Int32 := if 1 ≤ s then (x + s - 1) / s else 0
theorem q_asMany (x s : Int32) (w : PW) : fSettings_asManyAsItTakes x s w = some (.inl (some (.int (q_many x s))), w) := by
  unfold fSettings_asManyAsItTakes q_many
  split
  · rename_i h
    unfold p_idiv
    rw [if_neg (by grind)]
    rfl
  · rfl
section
variable {w : PW} {b : Nat} {tw th : Int32} {sz dp nm sy sp : Nat → Int32}
theorem qS.obj (h : qS w b tw th sz dp nm sy sp) : ∃ fs, p_obj w b 7 = some fs := ⟨_, q_obj h.1⟩
theorem qS.tilesFor (h : qS w b tw th sz dp nm sy sp) (x y : Int32) : fSettings_tilesFor b x y w = some (.inl (some (.int (q_many x tw * q_many y th))), w) := by
  unfold fSettings_tilesFor
  rw [q_getI h.1 rfl, Option.bind_some, q_asMany, q_call, q_kI, q_getI h.1 rfl, Option.bind_some, q_asMany, q_call, q_kI]
theorem qS.size (h : qS w b tw th sz dp nm sy sp) (i : Int32) (h0 : 0 ≤ i) (h1 : i < 3) : p_ald w (b + 1) 0 i = some (sz i.toNatClampNeg) := q_ald h.2.1 h0 h1 (by decide)
theorem qS.tiles (h : qS w b tw th sz dp nm sy sp) : fSettings_tiles b w = some (.inl (some (.int (q_many (sz 0) tw * q_many (sz 1) th))), w) := by
  unfold fSettings_tiles
  obtain ⟨fs, ho⟩ := h.obj
  simp only [q_getR (k := 0) h.1 rfl, Option.bind_some, h.size 0 (by decide) (by decide), h.size 1 (by decide) (by decide), ho, h.tilesFor, q_call, q_kI]
  rfl
theorem qS.isTile (h : qS w b tw th sz dp nm sy sp) (t : Int32) : fSettings_isTile b t w = some (.inl (some (.int (if t < 0 then 0 else if q_many (sz 0) tw * q_many (sz 1) th ≤ t then 0 else 1))), w) := by
  unfold fSettings_isTile
  obtain ⟨fs, ho⟩ := h.obj
  simp only [ho, Option.bind_some, h.tiles, q_call, q_kI, q_ret0, q_ret1]
  (repeat' split) <;> rfl
theorem qS.isComponent (h : qS w b tw th sz dp nm sy sp) (t : Int32) : fSettings_isComponent b t w = some (.inl (some (.int (if t < 0 then 0 else if sz 2 ≤ t then 0 else 1))), w) := by
  unfold fSettings_isComponent
  simp only [q_getR (k := 0) h.1 rfl, Option.bind_some, h.size 2 (by decide) (by decide), q_ret0, q_ret1]
  show (if t < 0 then _ else if sz 2 ≤ t then _ else _) = _
  (repeat' split) <;> rfl
def q_within (what : Int32) (v : Int64) : Int32 := if what < 0 then 0 else if 11 ≤ what then 0 else if lg_cmp v (Int32.toInt64 (pz_tab 0 what.toNatClampNeg)) < 0 then 0 else if 0 < lg_cmp v (Int32.toInt64 (pz_tab 1 what.toNatClampNeg)) then 0 else 1
theorem q_isWithin (what : Int32) (v : Int64) (w : PW) : fW_isWithin what v w = some (.inl (some (.int (q_within what v))), w) := by
  unfold fW_isWithin q_within
  by_cases h : what < 0
  · simp only [h, if_true, q_ret0]
  · by_cases h2 : (11 : Int32) ≤ what
    · have : p_tlen 0 ≤ what := h2
      simp only [h, this, h2, if_true, if_false, q_ret0]
    · have h3 : ¬ p_tlen 0 ≤ what := h2
      have e : ∀ j, p_tab j what = some (pz_tab j what.toNatClampNeg) := fun j => by
        unfold p_tab
        rw [if_neg]
        exact q_inb (q_0le h) (by show what < 11; grind) (by decide)
      simp only [h, h3, h2, if_false, e, Option.bind_some, q_ret0, q_ret1]
      (repeat' split) <;> rfl
theorem qS.allows (h : qS w b tw th sz dp nm sy sp) (what v : Int32) : fSettings_allows b what v w = some (.inl (some (.int (if q_within what (Int32.toInt64 v) = 0 then 0 else if 24 < q_many (if what = 0 then v else sz 0) tw * q_many (if what = 1 then v else sz 1) th then 0 else 1))), w) := by
  unfold fSettings_allows fSettings_allows_25 fSettings_allows_41
  obtain ⟨fs, ho⟩ := h.obj
  simp only [q_isWithin, q_call, q_kI, q_getR (k := 0) h.1 rfl, Option.bind_some, h.size 0 (by decide) (by decide), h.size 1 (by decide) (by decide), ho, h.tilesFor, q_ret0, q_ret1]
  by_cases h1 : q_within what (Int32.toInt64 v) = 0
  · simp only [h1, not_true_eq_false, if_true, if_false]
  · simp only [h1, not_false_eq_true, if_true, if_false]
    by_cases h2 : what = 0
    · subst h2
      simp only [not_true_eq_false, if_true, if_false, show ¬ (0 : Int32) = 1 by decide, not_false_eq_true]
      show (if (24 : Int32) < q_many v tw * q_many (sz 1) th then _ else _) = _
      split <;> rfl
    · by_cases h3 : what = 1
      · subst h3
        simp only [h2, not_true_eq_false, if_true, if_false, not_false_eq_true]
        show (if (24 : Int32) < q_many (sz 0) tw * q_many v th then _ else _) = _
        split <;> rfl
      · simp only [h2, h3, if_true, if_false, not_false_eq_true]
        show (if (24 : Int32) < q_many (sz 0) tw * q_many (sz 1) th then _ else _) = _
        split <;> rfl
def q_any (sy sp : Nat → Int32) : Nat → Nat → Int32
  | 0, _ => 0
  | n + 1, i => if ¬ sy i = 0 then 1 else if sp i = 0 then q_any sy sp n (i + 1) else 1
theorem qS.any2 (h : qS w b tw th sz dp nm sy sp) : ∀ (n i F : Nat), n < F → i + n = 125 → fSettings_hasSegmentNotForAll_2 F b (Int32.ofNat i) w = some (.inl (some (.int (q_any sy sp n i))), w)
  | 0, i, F + 1, _, hi => by
    rw [fSettings_hasSegmentNotForAll_2, if_pos]
    · rfl
    · exact (q_le (m := 125) (by omega) (by omega)).mpr (by omega)
  | n + 1, i, F + 1, hF, hi => by
    have h1 : ¬ (125 : Int32) ≤ Int32.ofNat i := fun k => by
      have := (q_le (m := 125) (n := i) (by omega) (by omega)).mp k
      omega
    have e1 := q_tno (n := i) (by omega)
    rw [fSettings_hasSegmentNotForAll_2, if_neg h1]
    rw [q_getR (k := 3) h.1 rfl, Option.bind_some, q_ald h.2.2.2.2.1 (q_ge0 _ (by omega)) ((q_lt (by omega) (by omega)).mpr (by omega)) (by decide), Option.bind_some, q_getR (k := 4) h.1 rfl, Option.bind_some, q_ald h.2.2.2.2.2.1 (q_ge0 _ (by omega)) ((q_lt (by omega) (by omega)).mpr (by omega)) (by decide), Option.bind_some, e1]
    show (if ¬ sy i = 0 then _ else if sp i = 0 then fSettings_hasSegmentNotForAll_2 F b (Int32.ofNat i + 1) w else _) = _
    rw [show Int32.ofNat i + 1 = Int32.ofNat (i + 1) from (Int32.ofNat_add i 1).symm, qS.any2 h n (i + 1) F (by omega) (by omega), q_any]
    (repeat' split) <;> rfl
theorem qS.any (h : qS w b tw th sz dp nm sy sp) : fSettings_hasSegmentNotForAll b w = some (.inl (some (.int (q_any sy sp 124 1))), w) := h.any2 124 1 FUEL (by decide) (by decide)
theorem qS.both (h : qS w b tw th sz dp nm sy sp) : fSettings_hasStyleAndStepForAll b w = some (.inl (some (.int (if sy 0 = 0 then 0 else if sp 0 = 0 then 0 else 1))), w) := by
  unfold fSettings_hasStyleAndStepForAll
  rw [q_getR (k := 3) h.1 rfl, Option.bind_some, q_ald h.2.2.2.2.1 (by decide) (by decide) (by decide), Option.bind_some, q_getR (k := 4) h.1 rfl, Option.bind_some, q_ald h.2.2.2.2.2.1 (by decide) (by decide) (by decide), Option.bind_some, q_ret0, q_ret1]
  show (if sy 0 = 0 then _ else if sp 0 = 0 then _ else _) = _
  (repeat' split) <;> rfl
theorem qS.hasStyle (h : qS w b tw th sz dp nm sy sp) (t c : Int32) : fSettings_hasStyle b t c w = some (.inl (some (.int (sy (q_slot t c).toNatClampNeg))), w) := by
  unfold fSettings_hasStyle
  rw [q_getR (k := 3) h.1 rfl, Option.bind_some, q_slotOf, q_call, q_kI, q_ald h.2.2.2.2.1 (q_slot0 t c) (q_slot1 t c) (by decide), Option.bind_some]
  unfold p_retZ
  rw [if_pos (h.2.2.2.2.2.2.1 _)]
theorem qS.hasStep (h : qS w b tw th sz dp nm sy sp) (t c : Int32) : fSettings_hasStep b t c w = some (.inl (some (.int (sp (q_slot t c).toNatClampNeg))), w) := by
  unfold fSettings_hasStep
  rw [q_getR (k := 4) h.1 rfl, Option.bind_some, q_slotOf, q_call, q_kI, q_ald h.2.2.2.2.2.1 (q_slot0 t c) (q_slot1 t c) (by decide), Option.bind_some]
  unfold p_retZ
  rw [if_pos (h.2.2.2.2.2.2.2 _)]
def q_fc (g : Nat → Int32) (t c : Int32) : Int32 := if g (q_slot t c).toNatClampNeg = 0 then (if g (q_slot t (-1)).toNatClampNeg = 0 then (if g (q_slot (-1) c).toNatClampNeg = 0 then 0 else q_slot (-1) c) else q_slot t (-1)) else q_slot t c
theorem q_fc_b (g : Nat → Int32) (t c : Int32) : 0 ≤ q_fc g t c ∧ q_fc g t c < 125 := by
  unfold q_fc
  have h1 := q_slot_b t c
  have h2 := q_slot_b t (-1)
  have h3 := q_slot_b (-1) c
  (repeat' split) <;> first | assumption | decide
theorem q_force {a : Nat} {g : Nat → Int32} (h : w.1[a]? = some (.inl (2, 125, .inl g))) (t c : Int32) : fSettings_slotInForce_17 t c a w = some (.inl (some (.int (q_fc g t c))), w) := by
  unfold fSettings_slotInForce_17 q_fc
  simp only [q_slotOf, q_call, q_kI, q_ald h (q_slot0 _ _) (q_slot1 _ _) (by decide), Option.bind_some]
  (repeat' split) <;> rfl
theorem qS.force (h : qS w b tw th sz dp nm sy sp) (what t c : Int32) : fSettings_slotInForce b what t c w = some (.inl (some (.int (q_fc (if 9 ≤ what then sp else sy) t c))), w) := by
  unfold fSettings_slotInForce
  rw [q_getR (k := 4) h.1 rfl, Option.bind_some, q_getR (k := 3) h.1 rfl, Option.bind_some, q_force h.2.2.2.2.1, q_force h.2.2.2.2.2.1]
  split <;> rfl
def q_val (sz dp nm sy sp : Nat → Int32) (what t c : Int32) : Int32 := if what ≤ 2 then sz what.toNatClampNeg else if what = 3 then dp (p_max 0 c).toNatClampNeg else nm (q_fc (if 9 ≤ what then sp else sy) t (if what = 4 ∨ what = 5 then -1 else c) * 7 + what - 4).toNatClampNeg
theorem qS.val62 (h : qS w b tw th sz dp nm sy sp) (what t c : Int32) (h0 : 4 ≤ what) (h1 : what ≤ 10) : fSettings_valueOf_62 what c t what b (b + 3) w = some (.inl (some (.int (nm (q_fc (if 9 ≤ what then sp else sy) t c * 7 + what - 4).toNatClampNeg))), w) := by
  obtain ⟨fs, ho⟩ := h.obj
  have hb := q_fc_b (if 9 ≤ what then sp else sy) t c
  unfold fSettings_valueOf_62 fSettings_place
  rw [ho, Option.bind_some, h.force, q_call, q_kI, q_call, q_kI, q_ald h.2.2.2.1 (by grind) (by show _ < (875 : Int32); grind) (by decide)]
  rfl
theorem qS.valueOf (h : qS w b tw th sz dp nm sy sp) (what t c : Int32) (h0 : 0 ≤ what) (h1 : what ≤ 10) (hc : what = 3 → c < 4) : fSettings_valueOf b what t c w = some (.inl (some (.int (q_val sz dp nm sy sp what t c))), w) := by
  unfold fSettings_valueOf fSettings_valueOf_43 q_val
  by_cases k1 : (2 : Int32) < what
  · have k1' : ¬ what ≤ 2 := by grind
    by_cases k2 : what = 3
    · subst k2
      have hd : 0 ≤ p_max 0 c ∧ p_max 0 c < 4 := by unfold p_max; grind
      simp only [k1, k1', if_true, if_false, not_true_eq_false]
      rw [q_getR (k := 1) h.1 rfl, Option.bind_some, q_ald h.2.2.1 hd.1 hd.2 (by decide), Option.bind_some]
    · simp only [k1, k1', k2, if_true, if_false, not_false_eq_true, q_getR (k := 2) h.1 rfl, Option.bind_some]
      by_cases k3 : what = 4
      · subst k3
        simp only [if_true, true_or, show ¬ (1 : Int32) = 0 by decide, if_false]
        exact h.val62 4 t (-1) h0 h1
      · by_cases k4 : what = 5
        · subst k4
          simp only [if_true, or_true, show ¬ (1 : Int32) = 0 by decide, if_false, not_true_eq_false, k3]
          exact h.val62 5 t (-1) h0 h1
        · simp only [k3, k4, if_true, if_false, not_false_eq_true, or_self]
          exact h.val62 what t c (by grind) h1
  · have k1' : what ≤ 2 := by grind
    simp only [k1, k1', if_true, if_false]
    rw [q_getR (k := 0) h.1 rfl, Option.bind_some, h.size what h0 (by grind), Option.bind_some]
end
/-- only the cells from lo up to hi have changed -/
def qI (lo hi : Nat) (w w' : PW) : Prop := w'.1.length = w.1.length ∧ w'.2 = w.2 ∧ ∀ x, (x < lo ∨ hi ≤ x) → w'.1[x]? = w.1[x]?
theorem qI.rf {lo hi : Nat} {w : PW} : qI lo hi w w := ⟨rfl, rfl, fun _ _ => rfl⟩
theorem qI.tr {lo hi : Nat} {w w' w'' : PW} (h : qI lo hi w w') (k : qI lo hi w' w'') : qI lo hi w w'' := ⟨k.1.trans h.1, k.2.1.trans h.2.1, fun x hx => (k.2.2 x hx).trans (h.2.2 x hx)⟩
theorem qE.i {lo hi a : Nat} {w w' : PW} (h : qE a w w') (h1 : lo ≤ a) (h2 : a < hi) : qI lo hi w w' := ⟨h.1, h.2.2, fun x hx => h.2.1 x (by omega)⟩
theorem qI.at {lo hi x : Nat} {w w' : PW} {y} (h : qI lo hi w w') (hx : w.1[x]? = some y) (ho : x < lo ∨ hi ≤ x) : w'.1[x]? = some y := by rw [h.2.2 x ho, hx]
theorem qI.fr {lo hi : Nat} {w w' : PW} (h : qI lo hi w w') : qF (fun x => lo ≤ x ∧ x < hi) w w' := ⟨by rw [h.1]; exact Nat.le_refl _, fun x _ hp => h.2.2 x (by omega), by rw [h.2.1]; exact Nat.le_refl _⟩
theorem q_nar0 : vp_nar .boolean 0 = 0 := by decide
theorem q_nar1 : vp_nar .boolean 1 = 1 := by decide
section
variable {w : PW} {b : Nat} {tw th : Int32} {sz dp nm sy sp : Nat → Int32}
theorem q_upd01 {f : Nat → Int32} (h : ∀ i, f i = 0 ∨ f i = 1) (k : Nat) (x : Int32) (hx : x = 0 ∨ x = 1) : ∀ i, upd f k x i = 0 ∨ upd f k x i = 1 := fun i => by
  unfold upd
  split
  · exact hx
  · exact h i
/-- a number held -/
theorem qS.hold (h : qS w b tw th sz dp nm sy sp) (sl what v : Int32) (h0 : 0 ≤ sl) (h1 : sl < 125) (h2 : 4 ≤ what) (h3 : what ≤ 10) :
    ∃ w', fSettings_hold b sl what v w = some (.inl none, w') ∧ qS w' b tw th sz dp (upd nm (sl * 7 + what - 4).toNatClampNeg v) (if 9 ≤ what then sy else upd sy sl.toNatClampNeg 1) (if 9 ≤ what then upd sp sl.toNatClampNeg 1 else sp) ∧ qI b (b + 6) w w' := by
  obtain ⟨a0, a1, a2, a3, a4, a5, a6, a7⟩ := h
  unfold fSettings_hold fSettings_place
  rw [q_getR (k := 2) a0 rfl, Option.bind_some, q_call, q_kI]
  obtain ⟨w1, g1, s1, F1⟩ := o_ast a3 (i := sl * 7 + what - 4) (by grind) (by show _ < (875 : Int32); grind) (by decide) v
  rw [g1, Option.bind_some]
  have b0 := F1.at a0 (by omega)
  have b4 := F1.at a4 (by omega)
  have b5 := F1.at a5 (by omega)
  have b1 := F1.at a1 (by omega)
  have b2 := F1.at a2 (by omega)
  by_cases hw : 9 ≤ what
  · simp only [hw, if_true]
    rw [q_getR (k := 4) b0 rfl, Option.bind_some, q_nar1]
    obtain ⟨w2, g2, s2, F2⟩ := o_ast b5 h0 h1 (by decide) 1
    rw [g2, Option.bind_some]
    exact ⟨w2, rfl, ⟨F2.at b0 (by omega), F2.at b1 (by omega), F2.at b2 (by omega), F2.at s1 (by omega), F2.at b4 (by omega), s2, a6, q_upd01 a7 _ _ (Or.inr rfl)⟩, (F1.i (by omega) (by omega)).tr (F2.i (by omega) (by omega))⟩
  · simp only [hw, if_false]
    rw [q_getR (k := 3) b0 rfl, Option.bind_some, q_nar1]
    obtain ⟨w2, g2, s2, F2⟩ := o_ast b4 h0 h1 (by decide) 1
    rw [g2, Option.bind_some]
    exact ⟨w2, rfl, ⟨F2.at b0 (by omega), F2.at b1 (by omega), F2.at b2 (by omega), F2.at s1 (by omega), s2, F2.at b5 (by omega), q_upd01 a6 _ _ (Or.inr rfl), a7⟩, (F1.i (by omega) (by omega)).tr (F2.i (by omega) (by omega))⟩
def q_zero (f : Nat → Int32) (lo : Nat) : Nat → Int32 := fun k => if lo ≤ k ∧ k < 125 then 0 else f k
theorem q_zero_up (f : Nat → Int32) (i : Nat) (hi : i < 125) : q_zero (upd f i 0) (i + 1) = q_zero f i := by
  funext k
  unfold q_zero upd
  grind
theorem q_zero_end (f : Nat → Int32) : q_zero f 125 = f := by
  funext k
  unfold q_zero
  rw [if_neg (by omega)]
theorem qS.forget2 : ∀ (n i F : Nat) (w : PW) (sy sp : Nat → Int32), qS w b tw th sz dp nm sy sp → n < F → i + n = 125 → ∃ w', fSettings_forgetSegments_2 F b (Int32.ofNat i) w = some (.inl none, w') ∧ qS w' b tw th sz dp nm (q_zero sy i) (q_zero sp i) ∧ qI b (b + 6) w w'
  | 0, i, F + 1, w, sy, sp, h, _, hi => by
    have : i = 125 := by omega
    subst this
    rw [fSettings_forgetSegments_2, if_pos (by decide), q_zero_end, q_zero_end]
    exact ⟨w, rfl, h, qI.rf⟩
  | n + 1, i, F + 1, w, sy, sp, h, hF, hi => by
    have h1 : ¬ (125 : Int32) ≤ Int32.ofNat i := fun k => by
      have := (q_le (m := 125) (n := i) (by omega) (by omega)).mp k
      omega
    have e1 := q_tno (n := i) (by omega)
    obtain ⟨a0, a1, a2, a3, a4, a5, a6, a7⟩ := h
    rw [fSettings_forgetSegments_2, if_neg h1, q_getR (k := 3) a0 rfl, Option.bind_some, q_nar0]
    obtain ⟨w1, g1, s1, F1⟩ := o_ast a4 (q_ge0 i (by omega)) ((q_lt (by omega) (by omega)).mpr (by omega)) (by decide) 0
    rw [g1, Option.bind_some, q_getR (k := 4) (F1.at a0 (by omega)) rfl, Option.bind_some]
    obtain ⟨w2, g2, s2, F2⟩ := o_ast (F1.at a5 (by omega)) (q_ge0 i (by omega)) ((q_lt (by omega) (by omega)).mpr (by omega)) (by decide) 0
    rw [g2, Option.bind_some]
    rw [e1] at s1 s2
    have hq : qS w2 b tw th sz dp nm (upd sy i 0) (upd sp i 0) := ⟨F2.at (F1.at a0 (by omega)) (by omega), F2.at (F1.at a1 (by omega)) (by omega), F2.at (F1.at a2 (by omega)) (by omega), F2.at (F1.at a3 (by omega)) (by omega), F2.at s1 (by omega), s2, q_upd01 a6 _ _ (Or.inl rfl), q_upd01 a7 _ _ (Or.inl rfl)⟩
    obtain ⟨w3, g3, k3, F3⟩ := qS.forget2 n (i + 1) F w2 _ _ hq (by omega) (by omega)
    rw [q_zero_up _ _ (by omega), q_zero_up _ _ (by omega)] at k3
    refine ⟨w3, ?_, k3, ((F1.i (by omega) (by omega)).tr (F2.i (by omega) (by omega))).tr F3⟩
    show fSettings_forgetSegments_2 F b (Int32.ofNat i + 1) w2 = _
    rw [show Int32.ofNat i + 1 = Int32.ofNat (i + 1) from (Int32.ofNat_add i 1).symm, g3]
theorem qS.forgetSegments (h : qS w b tw th sz dp nm sy sp) : ∃ w', fSettings_forgetSegments b w = some (.inl none, w') ∧ qS w' b tw th sz dp nm (q_zero sy 0) (q_zero sp 0) ∧ qI b (b + 6) w w' := qS.forget2 125 0 FUEL w sy sp h (by decide) (by decide)
/-- a tile's segments forgotten -/
def q_ft (g : Nat → Int32) (t : Int32) : Nat → Int32 → Nat → Int32
  | 0, _ => g
  | n + 1, c => q_ft (upd g (q_slot t c).toNatClampNeg 0) t n (c + 1)
theorem qS.ft2 (t : Int32) : ∀ (n : Nat) (c : Int32) (F : Nat) (w : PW) (sy sp : Nat → Int32), qS w b tw th sz dp nm sy sp → n < F → c.toInt + n = 4 → ∃ w', fSettings_forgetTile_2 F b t c w = some (.inl none, w') ∧ qS w' b tw th sz dp nm (q_ft sy t n c) (q_ft sp t n c) ∧ qI b (b + 6) w w'
  | 0, c, F + 1, w, sy, sp, h, _, hi => by
    have : (4 : Int32) ≤ c := by
      rw [Int32.le_iff_toInt_le]
      show (4 : Int) ≤ _
      omega
    rw [fSettings_forgetTile_2, if_pos this]
    exact ⟨w, rfl, h, qI.rf⟩
  | n + 1, c, F + 1, w, sy, sp, h, hF, hi => by
    have h1 : ¬ (4 : Int32) ≤ c := by
      rw [Int32.le_iff_toInt_le]
      show ¬ (4 : Int) ≤ _
      omega
    obtain ⟨a0, a1, a2, a3, a4, a5, a6, a7⟩ := h
    rw [fSettings_forgetTile_2, if_neg h1, q_getR (k := 3) a0 rfl, Option.bind_some, q_nar0, q_slotOf, q_call, q_kI]
    obtain ⟨w1, g1, s1, F1⟩ := o_ast a4 (q_slot0 t c) (q_slot1 t c) (by decide) 0
    rw [g1, Option.bind_some, q_getR (k := 4) (F1.at a0 (by omega)) rfl, Option.bind_some, q_slotOf, q_call, q_kI]
    obtain ⟨w2, g2, s2, F2⟩ := o_ast (F1.at a5 (by omega)) (q_slot0 t c) (q_slot1 t c) (by decide) 0
    rw [g2, Option.bind_some]
    have hq : qS w2 b tw th sz dp nm (upd sy (q_slot t c).toNatClampNeg 0) (upd sp (q_slot t c).toNatClampNeg 0) := ⟨F2.at (F1.at a0 (by omega)) (by omega), F2.at (F1.at a1 (by omega)) (by omega), F2.at (F1.at a2 (by omega)) (by omega), F2.at (F1.at a3 (by omega)) (by omega), F2.at s1 (by omega), s2, q_upd01 a6 _ _ (Or.inl rfl), q_upd01 a7 _ _ (Or.inl rfl)⟩
    have e1 : (1 : Int32).toInt = 1 := rfl
    have hc := q_bot c
    obtain ⟨w3, g3, k3, F3⟩ := qS.ft2 t n (c + 1) F w2 _ _ hq (by omega) (by rw [q_add (by omega) (by omega)]; omega)
    exact ⟨w3, g3, k3, ((F1.i (by omega) (by omega)).tr (F2.i (by omega) (by omega))).tr F3⟩
theorem qS.forgetTile (h : qS w b tw th sz dp nm sy sp) (t : Int32) : ∃ w', fSettings_forgetTile b t w = some (.inl none, w') ∧ qS w' b tw th sz dp nm (q_ft sy t 5 (-1)) (q_ft sp t 5 (-1)) ∧ qI b (b + 6) w w' := qS.ft2 t 5 (-1) FUEL w sy sp h (by decide) (by decide)
/-- depths -/
def q_dep (dp : Nat → Int32) (c v : Int32) : Nat → Nat → Nat → Int32
  | 0, _ => dp
  | n + 1, i => q_dep (if c = -1 ∨ c = Int32.ofNat i then upd dp i v else dp) c v n (i + 1)
theorem qS.dep2 (c v : Int32) : ∀ (n i F : Nat) (w : PW) (dp : Nat → Int32), qS w b tw th sz dp nm sy sp → n < F → i + n = 4 → ∃ w', fSettings_changeDepth_2 F b c v (Int32.ofNat i) w = some (.inl none, w') ∧ qS w' b tw th sz (q_dep dp c v n i) nm sy sp ∧ qI b (b + 6) w w'
  | 0, i, F + 1, w, dp, h, _, hi => by
    have : i = 4 := by omega
    subst this
    rw [fSettings_changeDepth_2, if_pos (by decide)]
    exact ⟨w, rfl, h, qI.rf⟩
  | n + 1, i, F + 1, w, dp, h, hF, hi => by
    have h1 : ¬ (4 : Int32) ≤ Int32.ofNat i := fun k => by
      have := (q_le (m := 4) (n := i) (by omega) (by omega)).mp k
      omega
    have e1 := q_tno (n := i) (by omega)
    have e2 : Int32.ofNat i + 1 = Int32.ofNat (i + 1) := (Int32.ofNat_add i 1).symm
    have hj : c = -1 ∨ c = Int32.ofNat i → ∃ w', fSettings_changeDepth_17 (fSettings_changeDepth_2 F) b c v (Int32.ofNat i) w = some (.inl none, w') ∧ qS w' b tw th sz (q_dep dp c v (n + 1) i) nm sy sp ∧ qI b (b + 6) w w' := fun hc => by
      obtain ⟨a0, a1, a2, a3, a4, a5, a6⟩ := h
      unfold fSettings_changeDepth_17
      rw [q_getR (k := 1) a0 rfl, Option.bind_some]
      obtain ⟨w1, g1, s1, F1⟩ := o_ast a2 (q_ge0 i (by omega)) ((q_lt (by omega) (by omega)).mpr (by omega)) (by decide) v
      rw [g1, Option.bind_some]
      rw [e1] at s1
      have hq : qS w1 b tw th sz (upd dp i v) nm sy sp := ⟨F1.at a0 (by omega), F1.at a1 (by omega), s1, F1.at a3 (by omega), F1.at a4 (by omega), F1.at a5 (by omega), a6⟩
      obtain ⟨w2, g2, k2, F2⟩ := qS.dep2 c v n (i + 1) F w1 _ hq (by omega) (by omega)
      refine ⟨w2, ?_, ?_, (F1.i (by omega) (by omega)).tr F2⟩
      · show fSettings_changeDepth_2 F b c v (Int32.ofNat i + 1) w1 = _
        rw [e2, g2]
      · rw [q_dep, if_pos hc]
        exact k2
    rw [fSettings_changeDepth_2, if_neg h1]
    by_cases hc1 : c = -1
    · rw [if_pos hc1]
      exact hj (Or.inl hc1)
    · rw [if_neg hc1]
      by_cases hc2 : c = Int32.ofNat i
      · rw [if_neg (not_not_intro hc2)]
        exact hj (Or.inr hc2)
      · rw [if_pos hc2]
        obtain ⟨w2, g2, k2, F2⟩ := qS.dep2 c v n (i + 1) F w _ h (by omega) (by omega)
        refine ⟨w2, ?_, ?_, F2⟩
        · show fSettings_changeDepth_2 F b c v (Int32.ofNat i + 1) w = _
          rw [e2, g2]
        · rw [q_dep, if_neg (by rintro (e | e); exact hc1 e; exact hc2 e)]
          exact k2
theorem qS.changeDepth (h : qS w b tw th sz dp nm sy sp) (c v : Int32) : ∃ w', fSettings_changeDepth b c v w = some (.inl none, w') ∧ qS w' b tw th sz (q_dep dp c v 4 0) nm sy sp ∧ qI b (b + 6) w w' := qS.dep2 c v 4 0 FUEL w dp h (by decide) (by decide)
/-- a segment made -/
def q_mkN (from_ sl : Int32) : Nat → Int32 → (Nat → Int32) → Nat → Int32
  | 0, _, nm => nm
  | n + 1, k, nm => q_mkN from_ sl n (k + 1) (upd nm (sl * 7 + k - 4).toNatClampNeg (nm (from_ * 7 + k - 4).toNatClampNeg))
theorem qS.mk57 (from_ sl hi : Int32) (f0 : 0 ≤ from_) (f1 : from_ < 125) (s0 : 0 ≤ sl) (s1 : sl < 125) (hb : hi ≤ 10) : ∀ (n : Nat) (k : Int32) (F : Nat) (w : PW) (nm sy sp : Nat → Int32), qS w b tw th sz dp nm sy sp → n < F → 4 ≤ k → k.toInt + n = hi.toInt + 1 → (hi = 8 ∨ (hi = 10 ∧ 9 ≤ k)) → ∃ w', fSettings_makeSegment_57 F b sl from_ hi k w = some (.inl none, w') ∧ qS w' b tw th sz dp (q_mkN from_ sl n k nm) (if hi = 10 ∨ n = 0 then sy else upd sy sl.toNatClampNeg 1) (if hi = 10 ∧ n ≠ 0 then upd sp sl.toNatClampNeg 1 else sp) ∧ qI b (b + 6) w w'
  | 0, k, F + 1, w, nm, sy, sp, h, _, h4, hi2, _ => by
    have : hi < k := by rw [Int32.lt_iff_toInt_lt]; omega
    rw [fSettings_makeSegment_57, if_pos this, if_pos (Or.inr rfl), if_neg (fun k => k.2 rfl)]
    exact ⟨w, rfl, h, qI.rf⟩
  | n + 1, k, F + 1, w, nm, sy, sp, h, hF, h4, hi2, hc => by
    have h1 : ¬ hi < k := by rw [Int32.lt_iff_toInt_lt]; omega
    have hk : k ≤ 10 := by grind
    obtain ⟨fs, ho⟩ := h.obj
    rw [fSettings_makeSegment_57, if_neg h1, q_getR (k := 2) h.1 rfl, Option.bind_some]
    unfold fSettings_place
    rw [q_call, q_kI, q_ald h.2.2.2.1 (by grind) (by show _ < (875 : Int32); grind) (by decide), Option.bind_some, ho, Option.bind_some]
    obtain ⟨w1, g1, k1, F1⟩ := h.hold sl k (nm (from_ * 7 + k - 4).toNatClampNeg) s0 s1 h4 hk
    rw [g1, q_call, q_kV]
    have e1 : (1 : Int32).toInt = 1 := rfl
    have hk2 : k.toInt ≤ 10 := Int32.le_iff_toInt_le.mp hk
    have hk3 := q_bot k
    have e3 : (k + 1).toInt = k.toInt + 1 := by rw [q_add (by omega) (by omega)]; rfl
    obtain ⟨w2, g2, k2, F2⟩ := qS.mk57 from_ sl hi f0 f1 s0 s1 hb n (k + 1) F w1 _ _ _ k1 (by omega) (by grind) (by omega) (by grind)
    refine ⟨w2, g2, ?_, F1.tr F2⟩
    rw [q_mkN]
    have u2 : ∀ f : Nat → Int32, upd (upd f sl.toNatClampNeg 1) sl.toNatClampNeg 1 = upd f sl.toNatClampNeg 1 := fun f => by
      funext j
      unfold upd
      split <;> rfl
    rcases hc with hc | ⟨hc, hc2⟩
    · have h9 : ¬ 9 ≤ k := by grind
      have h10 : ¬ hi = 10 := by grind
      simp only [h9, if_false, h10, false_or, false_and, if_false] at k2
      simp only [h10, false_or, false_and, if_false, Nat.add_eq_zero_iff, Nat.one_ne_zero, and_false]
      by_cases hn : n = 0
      · simp only [hn, if_true] at k2 ⊢
        exact k2
      · simp only [hn, if_false, u2] at k2
        exact k2
    · simp only [hc2, if_true, hc, true_or, true_and] at k2
      simp only [hc, true_or, true_and, if_true, ne_eq, Nat.add_eq_zero_iff, Nat.one_ne_zero, and_false, not_false_eq_true]
      by_cases hn : n = 0
      · simp only [hn, ne_eq, not_true_eq_false, if_false] at k2
        rw [hn]
        exact k2
      · simp only [hn, ne_eq, not_false_eq_true, if_true, u2] at k2
        exact k2
def q_mk (what from_ sl : Int32) (nm : Nat → Int32) : Nat → Int32 := if sl = from_ then nm else if 9 ≤ what then q_mkN from_ sl 2 9 nm else q_mkN from_ sl 5 4 nm
theorem qS.makeSegment (h : qS w b tw th sz dp nm sy sp) (what t c : Int32) : ∃ w', fSettings_makeSegment b what t c w = some (.inl none, w') ∧ qS w' b tw th sz dp (q_mk what (q_fc (if 9 ≤ what then sp else sy) t c) (q_slot t c) nm) (if q_slot t c = q_fc (if 9 ≤ what then sp else sy) t c ∨ 9 ≤ what then sy else upd sy (q_slot t c).toNatClampNeg 1) (if ¬ q_slot t c = q_fc (if 9 ≤ what then sp else sy) t c ∧ 9 ≤ what then upd sp (q_slot t c).toNatClampNeg 1 else sp) ∧ qI b (b + 6) w w' := by
  obtain ⟨fs, ho⟩ := h.obj
  have hb := q_slot_b t c
  have hf := q_fc_b (if 9 ≤ what then sp else sy) t c
  unfold fSettings_makeSegment
  rw [q_slotOf, q_call, q_kI, ho, Option.bind_some, h.force, q_call, q_kI]
  generalize q_fc (if 9 ≤ what then sp else sy) t c = fr at *
  unfold fSettings_makeSegment_36 q_mk
  by_cases he : q_slot t c = fr
  · simp only [he, not_true_eq_false, if_false, if_true, true_or, false_and]
    exact ⟨w, rfl, h, qI.rf⟩
  · by_cases hw : 9 ≤ what
    · simp only [he, not_false_eq_true, if_true, hw, or_true, if_false, and_self]
      obtain ⟨w', g1, k1, F1⟩ := qS.mk57 fr (q_slot t c) 10 hf.1 hf.2 hb.1 hb.2 (by decide) 2 9 FUEL w nm sy sp h (by decide) (by decide) rfl (Or.inr ⟨rfl, by decide⟩)
      simp only [true_or, if_true, true_and, ne_eq, show ¬ (2 : Nat) = 0 by decide, not_false_eq_true] at k1
      exact ⟨w', g1, k1, F1⟩
    · simp only [he, not_false_eq_true, if_true, hw, or_self, if_false, and_false]
      obtain ⟨w', g1, k1, F1⟩ := qS.mk57 fr (q_slot t c) 8 hf.1 hf.2 hb.1 hb.2 (by decide) 5 4 FUEL w nm sy sp h (by decide) (by decide) rfl (Or.inl rfl)
      simp only [show ¬ (8 : Int32) = 10 by decide, show ¬ (5 : Nat) = 0 by decide, or_self, if_false, false_and] at k1
      exact ⟨w', g1, k1, F1⟩
end
