theorem q_tn {i : Int32} : i.toNatClampNeg = i.toInt.toNat := rfl
theorem q_ofi {n : Nat} (h : n < 2147483648) : (Int32.ofNat n).toInt = n := Int32.toInt_ofNat_of_lt h
theorem q_tno {n : Nat} (h : n < 2147483648) : (Int32.ofNat n).toNatClampNeg = n := by rw [q_tn, q_ofi h]; omega
theorem q_lt {m n : Nat} (h : m < 2147483648) (k : n < 2147483648) : Int32.ofNat m < Int32.ofNat n ↔ m < n := by rw [Int32.lt_iff_toInt_lt, q_ofi h, q_ofi k]; omega
theorem q_le {m n : Nat} (h : m < 2147483648) (k : n < 2147483648) : Int32.ofNat m ≤ Int32.ofNat n ↔ m ≤ n := by rw [Int32.le_iff_toInt_le, q_ofi h, q_ofi k]; omega
theorem q_inb {i : Int32} {n : Nat} (h0 : 0 ≤ i) (h : i < Int32.ofNat n) (hn : n < 2147483648) : ¬ (i < 0 ∨ n ≤ i.toNatClampNeg) := by
  have h1 := Int32.lt_iff_toInt_lt.mp h
  have h2 := Int32.le_iff_toInt_le.mp h0
  rw [q_ofi hn] at h1
  rintro (h3 | h3)
  · grind
  · have : n ≤ i.toInt.toNat := h3
    have e0 : (0 : Int32).toInt = 0 := rfl
    omega
theorem q_ald {w : PW} {a t n : Nat} {f : Nat → Int32} {i : Int32} (h : w.1[a]? = some (.inl (t, n, .inl f))) (h0 : 0 ≤ i) (hi : i < Int32.ofNat n) (hn : n < 2147483648) : p_ald w a t i = some (f i.toNatClampNeg) := by
  simp only [p_ald, p_arr, h, if_true, Option.bind_some, if_neg (q_inb h0 hi hn)]
theorem q_ast {w : PW} {a t n : Nat} {f : Nat → Int32} {i x : Int32} (h : w.1[a]? = some (.inl (t, n, .inl f))) (h0 : 0 ≤ i) (hi : i < Int32.ofNat n) (hn : n < 2147483648) : p_ast w a t i x = some (w.1.set a (.inl (t, n, .inl (upd f i.toNatClampNeg x))), w.2) := by
  simp only [p_ast, p_arr, h, if_true, Option.bind_some, if_neg (q_inb h0 hi hn)]
theorem q_len {w : PW} {a t n : Nat} {g} (h : w.1[a]? = some (.inl (t, n, g))) : p_len w a = some (Int32.ofNat n) := by
  simp only [p_len, h]
theorem q_obj {w : PW} {a c : Nat} {fs : List Value} (h : w.1[a]? = some (.inr (c, fs))) : p_obj w a c = some fs := by
  simp only [p_obj, h, if_true]
theorem q_getI {w : PW} {a c k : Nat} {fs : List Value} {v : Int32} (h : w.1[a]? = some (.inr (c, fs))) (hk : fs[k]? = some (.int v)) : p_getI w a c k = some v := by
  simp only [p_getI, q_obj h, Option.bind_some, hk, p_vI]
theorem q_getR {w : PW} {a c k : Nat} {fs : List Value} {v : Nat} (h : w.1[a]? = some (.inr (c, fs))) (hk : fs[k]? = some (.ref v)) : p_getR w a c k = some v := by
  simp only [p_getR, q_obj h, Option.bind_some, hk, p_vR]
theorem q_put {w : PW} {a c k : Nat} {fs : List Value} {v : Value} (h : w.1[a]? = some (.inr (c, fs))) (hk : k < fs.length) : p_put w a c k v = some (w.1.set a (.inr (c, fs.set k v)), w.2) := by
  simp only [p_put, q_obj h, Option.bind_some, if_pos hk]
theorem q_newA {w : PW} {t B n : Nat} {K} (hn : n ≤ 30000000) (hB : B ≤ 8) : p_newA w t B (Int32.ofNat n) K = K w.1.length (w.1 ++ [.inl (t, n, .inl fun _ => 0)], w.2.1 + 1, w.2.2 + n) := by
  unfold p_newA
  have e := q_tno (n := n) (by omega)
  have h9 : n * B ≤ 30000000 * 8 := Nat.mul_le_mul hn hB
  rw [e, if_neg]
  rintro (h | h)
  · have := (q_lt (m := n) (n := 0) (by omega) (by omega)).mp h
    omega
  · omega
theorem q_copy {w : PW} {t : Nat} {ty : FieldType} {a0 a1 n0 n1 n : Nat} {f0 f1 : Nat → Int32} (h0 : w.1[a0]? = some (.inl (t, n0, .inl f0))) (h1 : w.1[a1]? = some (.inl (t, n1, .inl f1))) (hn : n < 2147483648) (k0 : n ≤ n0) (k1 : n ≤ n1) (hf : ∀ i, i < n → fits ty (.int (f0 i)) = true) :
    p_copy w t ty a0 0 a1 0 (Int32.ofNat n) = some (w.1.set a1 (.inl (t, n1, .inl (va_cpy f0 f1 0 0 n))), w.2) := by
  have z : (0 : Int32).toNatClampNeg = 0 := rfl
  have z2 : ¬ (0 : Int32) < 0 := by decide
  have z3 : ¬ Int32.ofNat n < 0 := fun h => absurd ((q_lt (m := n) (n := 0) hn (by omega)).mp h) (Nat.not_lt_zero _)
  simp only [p_copy, p_arr, h0, h1, if_true, Option.bind_some, q_tno hn, z]
  rw [if_pos]
  refine ⟨⟨z2, z2, z3, by omega, by omega⟩, fun i hi => ?_⟩
  rw [Nat.zero_add]
  exact hf i hi
theorem q_lt_len {w : PW} {a : Nat} {x} (h : w.1[a]? = some x) : a < w.1.length := (List.getElem?_eq_some_iff.mp h).1
theorem q_call {rv w1 K} : p_call (some (.inl rv, w1)) K = K rv w1 := rfl
theorem q_kI {K v w} : p_kI K (some (.int v)) w = K v w := rfl
theorem q_kJ {K v w} : p_kJ K (some (.long v)) w = K v w := rfl
theorem q_kR {K v w} : p_kR K (some (.ref v)) w = K v w := rfl
theorem q_kV {K w} : p_kV K none w = K w := rfl
theorem q_ret1 {w} : p_retZ 1 w = some (.inl (some (.int 1)), w) := rfl
theorem q_ret0 {w} : p_retZ 0 w = some (.inl (some (.int 0)), w) := rfl
/-- the rest of the world stays -/
def qF (P : Nat → Prop) (w w' : PW) : Prop := w.1.length ≤ w'.1.length ∧ (∀ x, x < w.1.length → ¬ P x → w'.1[x]? = w.1[x]?) ∧ w'.2.1 + w.2.2 ≤ w.2.1 + w'.2.2
theorem qF.rf {P : Nat → Prop} {w : PW} : qF P w w := ⟨Nat.le_refl _, fun _ _ _ => rfl, Nat.le_refl _⟩
theorem qF.tr {P Q : Nat → Prop} {w w' w'' : PW} (h : qF P w w') (k : qF Q w' w'') (hQ : ∀ x, x < w.1.length → Q x → P x) : qF P w w'' := by
  obtain ⟨h1, h2, h3⟩ := h
  obtain ⟨k1, k2, k3⟩ := k
  refine ⟨by omega, fun x hx hp => ?_, by omega⟩
  rw [k2 x (by omega) (fun hq => hp (hQ x hx hq)), h2 x hx hp]
theorem qF.at {P : Nat → Prop} {w w' : PW} (h : qF P w w') {x : Nat} {y} (hx : w.1[x]? = some y) (hp : ¬ P x) : w'.1[x]? = some y := by
  rw [h.2.1 x (q_lt_len hx) hp, hx]
theorem qF.set {w : PW} {a : Nat} {x} : qF (fun y => y = a) w (w.1.set a x, w.2) := by
  refine ⟨by simp, fun y hy hp => ?_, Nat.le_refl _⟩
  show (w.1.set a x)[y]? = _
  rw [List.getElem?_set_ne (fun h => hp h.symm)]
theorem q_set_self {w : PW} {a : Nat} {x y} (h : w.1[a]? = some y) : (w.1.set a x)[a]? = some x := List.getElem?_set_self (q_lt_len h)
theorem q_set_ne {l : List va_E} {a b : Nat} {x} (h : a ≠ b) : (l.set a x)[b]? = l[b]? := List.getElem?_set_ne h
/-- a row of bytes -/
def qB (w : PW) (a r mo n : Nat) (L : List Int32) (f : Nat → Int32) : Prop :=
  w.1[a]? = some (.inr (2, [.int (Int32.ofNat mo), .ref r, .int (Int32.ofNat L.length)])) ∧ w.1[r]? = some (.inl (1, n, .inl f)) ∧ L.length ≤ n ∧ L.length ≤ mo ∧ (mo = 20000 ∨ mo = 300 ∨ mo = 40) ∧
  (n = mo ∨ n = 32 ∨ n = 64 ∨ n = 128 ∨ n = 256 ∨ n = 512 ∨ n = 1024 ∨ n = 2048 ∨ n = 4096 ∨ n = 8192 ∨ n = 16384) ∧ n ≤ mo ∧ (∀ i, fits .byte (.int (f i)) = true) ∧ ∀ i (h : i < L.length), f i &&& 255 = L[i]
theorem qB.o {w : PW} {a r mo n : Nat} {L : List Int32} {f : Nat → Int32} (h : qB w a r mo n L f) : w.1[a]? = some (.inr (2, [.int (Int32.ofNat mo), .ref r, .int (Int32.ofNat L.length)])) := h.1
theorem qB.d {w : PW} {a r mo n : Nat} {L : List Int32} {f : Nat → Int32} (h : qB w a r mo n L f) : w.1[r]? = some (.inl (1, n, .inl f)) := h.2.1
theorem qB.ne {w : PW} {a r mo n : Nat} {L : List Int32} {f : Nat → Int32} (h : qB w a r mo n L f) : a ≠ r := by
  intro e
  have h1 := h.o
  rw [e, h.d] at h1
  cases h1
theorem qB.get {w : PW} {a r mo n : Nat} {L : List Int32} {f : Nat → Int32} (h : qB w a r mo n L f) (i : Int32) : fBytes_get a i w = some (.inl (some (.int (if i < 0 then -1 else L[i.toNatClampNeg]?.getD (-1)))), w) := by
  have h9 := h.2.2.2.2.2.2.2.2
  obtain ⟨ho, hd, h1, h2, h3, h4, h5, h6, -⟩ := h
  unfold fBytes_get
  rw [q_getI ho rfl, q_getR ho rfl]
  by_cases hi : i < 0
  · simp only [hi, if_true]
  · simp only [hi, if_false, Option.bind_some]
    have i0 : 0 ≤ i.toInt := by
      have : ¬ i.toInt < (0 : Int32).toInt := fun h => hi (Int32.lt_iff_toInt_lt.mpr h)
      have e0 : (0 : Int32).toInt = 0 := rfl
      omega
    have e1 : Int32.ofNat L.length ≤ i ↔ L.length ≤ i.toNatClampNeg := by
      rw [Int32.le_iff_toInt_le, q_ofi (by omega), q_tn]
      omega
    by_cases hc : L.length ≤ i.toNatClampNeg
    · rw [if_pos (e1.mpr hc), List.getElem?_eq_none hc]; rfl
    · rw [if_neg (fun h => hc (e1.mp h))]
      have hlt : i < Int32.ofNat n := by
        rw [Int32.lt_iff_toInt_lt, q_ofi (by omega)]
        rw [q_tn] at hc
        omega
      rw [q_ald hd (by grind) hlt (by omega)]
      simp only [Option.bind_some]
      rw [h9 _ (by omega), List.getElem?_eq_getElem (by omega)]; rfl

/-- one byte more -/
def q_app (mo : Nat) (L : List Int32) (b : Int32) : List Int32 := if L.length < mo then L ++ [b &&& 255] else L
theorem q_b8 (b : Int32) : vp_nar .byte (p_i2b b) &&& 255 = b &&& 255 := by
  show b.toInt8.toInt32.toInt8.toInt32 &&& 255 = b &&& 255
  apply Int32.toBitVec_inj.mp
  simp only [Int32.toBitVec_and, Int8.toBitVec_toInt32, Int32.toBitVec_toInt8]
  ext i hi
  simp only [BitVec.getElem_and, BitVec.getElem_signExtend]
  by_cases h8 : i < 8
  · simp [h8, hi]
  · have : (255 : Int32).toBitVec[i] = false := by
      have e : ∀ j : Nat, j < 32 → 8 ≤ j → (255 : Int32).toBitVec.getLsbD j = false := by decide
      exact e i hi (by omega)
    rw [this, Bool.and_false, Bool.and_false]
theorem q_b8f (b : Int32) : fits .byte (.int (vp_nar .byte (p_i2b b))) = true := by
  show (decide (-128 ≤ b.toInt8.toInt32.toInt8.toInt32) && decide (b.toInt8.toInt32.toInt8.toInt32 ≤ 127)) = true
  rw [Bool.and_eq_true, decide_eq_true_iff, decide_eq_true_iff, Int32.le_iff_toInt_le, Int32.le_iff_toInt_le, Int8.toInt_toInt32]
  have h1 := Int8.le_toInt b.toInt8.toInt32.toInt8
  have h2 := Int8.toInt_le b.toInt8.toInt32.toInt8
  exact ⟨h1, h2⟩
/-- one place changed; one cell more -/
def qE (a : Nat) (w w' : PW) : Prop := w'.1.length = w.1.length ∧ (∀ x, x ≠ a → w'.1[x]? = w.1[x]?) ∧ w'.2 = w.2
def qA (k : Nat) (w w' : PW) : Prop := w'.1.length = w.1.length + 1 ∧ (∀ x, x < w.1.length → w'.1[x]? = w.1[x]?) ∧ w'.2.1 = w.2.1 + 1 ∧ w'.2.2 = w.2.2 + k
theorem qE.at {a x : Nat} {w w' : PW} {y} (h : qE a w w') (hx : w.1[x]? = some y) (hne : x ≠ a) : w'.1[x]? = some y := by rw [h.2.1 x hne, hx]
theorem qA.at {k x : Nat} {w w' : PW} {y} (h : qA k w w') (hx : w.1[x]? = some y) : w'.1[x]? = some y := by rw [h.2.1 x (q_lt_len hx), hx]
theorem qE.fr {a : Nat} {w w' : PW} (h : qE a w w') : qF (fun x => x = a) w w' := ⟨by rw [h.1]; exact Nat.le_refl _, fun x _ hp => h.2.1 x hp, by rw [h.2.2]; exact Nat.le_refl _⟩
theorem qA.fr {k : Nat} {w w' : PW} (h : qA k w w') (hk : 1 ≤ k) : qF (fun _ => False) w w' := ⟨by rw [h.1]; omega, fun x hx _ => h.2.1 x hx, by rw [h.2.2.1, h.2.2.2]; omega⟩
theorem o_put {w : PW} {a c k : Nat} {fs : List Value} (h : w.1[a]? = some (.inr (c, fs))) (hk : k < fs.length) (v : Value) : ∃ w', p_put w a c k v = some w' ∧ w'.1[a]? = some (.inr (c, fs.set k v)) ∧ qE a w w' :=
  ⟨_, q_put h hk, q_set_self h, List.length_set, fun x hx => q_set_ne hx.symm, rfl⟩
theorem o_ast {w : PW} {a t n : Nat} {f : Nat → Int32} {i : Int32} (h : w.1[a]? = some (.inl (t, n, .inl f))) (h0 : 0 ≤ i) (hi : i < Int32.ofNat n) (hn : n < 2147483648) (x : Int32) : ∃ w', p_ast w a t i x = some w' ∧ w'.1[a]? = some (.inl (t, n, .inl (upd f i.toNatClampNeg x))) ∧ qE a w w' :=
  ⟨_, q_ast h h0 hi hn, q_set_self h, List.length_set, fun x hx => q_set_ne hx.symm, rfl⟩
theorem o_copy {w : PW} {t : Nat} {ty : FieldType} {a0 a1 n0 n1 n : Nat} {f0 f1 : Nat → Int32} (h0 : w.1[a0]? = some (.inl (t, n0, .inl f0))) (h1 : w.1[a1]? = some (.inl (t, n1, .inl f1))) (hn : n < 2147483648) (k0 : n ≤ n0) (k1 : n ≤ n1) (hf : ∀ i, i < n → fits ty (.int (f0 i)) = true) : ∃ w', p_copy w t ty a0 0 a1 0 (Int32.ofNat n) = some w' ∧ w'.1[a1]? = some (.inl (t, n1, .inl (va_cpy f0 f1 0 0 n))) ∧ qE a1 w w' :=
  ⟨_, q_copy h0 h1 hn k0 k1 hf, q_set_self h1, List.length_set, fun x hx => q_set_ne hx.symm, rfl⟩
theorem o_newA (w : PW) (t B n : Nat) (hn : n ≤ 30000000) (hB : B ≤ 8) : ∃ w', (∀ K, p_newA w t B (Int32.ofNat n) K = K w.1.length w') ∧ w'.1[w.1.length]? = some (.inl (t, n, .inl fun _ => 0)) ∧ qA n w w' := by
  refine ⟨_, fun K => q_newA hn hB, ?_, ?_, fun x hx => ?_, rfl, rfl⟩
  · show (w.1 ++ [_])[w.1.length]? = _
    rw [List.getElem?_append_right (Nat.le_refl _), Nat.sub_self]; rfl
  · simp
  · exact List.getElem?_append_left hx
theorem o_newO (w : PW) (c N : Nat) (fs : List Value) : ∃ w', (∀ K, p_newO w c N fs K = K w.1.length w') ∧ w'.1[w.1.length]? = some (.inr (c, fs)) ∧ qA N w w' := by
  refine ⟨_, fun K => rfl, ?_, ?_, fun x hx => ?_, rfl, rfl⟩
  · show (w.1 ++ [_])[w.1.length]? = _
    rw [List.getElem?_append_right (Nat.le_refl _), Nat.sub_self]; rfl
  · simp
  · exact List.getElem?_append_left hx
theorem qF.mono {P Q : Nat → Prop} {w w' : PW} (h : qF P w w') (hQ : ∀ x, x < w.1.length → P x → Q x) : qF Q w w' := ⟨h.1, fun x hx hq => h.2.1 x hx (fun hp => hq (hQ x hx hp)), h.2.2⟩
theorem q_ge0 (n : Nat) (h : n < 2147483648) : 0 ≤ Int32.ofNat n := (q_le (m := 0) (by omega) h).mpr (Nat.zero_le _)
theorem qB.app50 {w : PW} {a r mo n : Nat} {L : List Int32} {f : Nat → Int32} (h : qB w a r mo n L f) (b : Int32) (hl : L.length < mo) (hn : L.length < n) :
    ∃ w' f', fBytes_append_50 a b w = some (.inl (some (.int 1)), w') ∧ qB w' a r mo n (L ++ [b &&& 255]) f' ∧ qF (fun x => x = a ∨ x = r) w w' ∧ w'.2 = w.2 := by
  have hne := h.ne
  obtain ⟨ho, hd, h1, h2, h3, h4, h5, h6, h7⟩ := h
  have e1 : (Int32.ofNat L.length).toNatClampNeg = L.length := q_tno (by omega)
  unfold fBytes_append_50
  rw [q_getR ho rfl, Option.bind_some, q_getI ho rfl, Option.bind_some]
  obtain ⟨w1, g1, s1, F1⟩ := o_ast hd (q_ge0 _ (by omega)) ((q_lt (m := L.length) (by omega) (by omega)).mpr hn) (by omega) (vp_nar .byte (p_i2b b))
  rw [g1, Option.bind_some]
  have ho1 := F1.at ho hne
  rw [q_getI ho1 rfl, Option.bind_some]
  obtain ⟨w2, g2, s2, F2⟩ := o_put (k := 2) ho1 (by simp) (.int (Int32.ofNat L.length + 1))
  rw [g2, Option.bind_some, q_ret1]
  have hd2 := F2.at s1 hne.symm
  rw [e1] at hd2
  refine ⟨w2, _, rfl, ⟨?_, hd2, by simp; omega, by simp; omega, h3, h4, h5, fun i => ?_, fun i hi => ?_⟩, ?_, F2.2.2.trans F1.2.2⟩
  · rw [s2, List.length_append, show Int32.ofNat (L.length + [b &&& 255].length) = Int32.ofNat L.length + 1 from Int32.ofNat_add _ _]
    rfl
  · unfold upd
    split
    · exact q_b8f b
    · exact h6 i
  · unfold upd
    by_cases hi2 : i = L.length
    · rw [if_pos hi2, q_b8]
      subst hi2
      simp
    · rw [if_neg hi2, h7 i (by simp at hi; omega), List.getElem_append_left]
  · exact (F1.fr.mono (fun _ _ h => Or.inr h)).tr F2.fr (fun _ _ h => Or.inl h)
theorem q_fr2 {a r : Nat} {w w1 w2 : PW} {r' : Nat} (h : qF (fun x => x = a) w w1) (k : qF (fun x => x = a ∨ x = r') w1 w2) (hr : r' = r ∨ w.1.length ≤ r') : qF (fun x => x = a ∨ x = r) w w2 := by
  obtain ⟨h1, h2, h3⟩ := h
  obtain ⟨k1, k2, k3⟩ := k
  refine ⟨by omega, fun x hx hp => ?_, by omega⟩
  rw [k2 x (by omega) (by rintro (e | e); exact hp (Or.inl e); rcases hr with e' | e'; exact hp (Or.inr (e.trans e')); omega), h2 x hx (fun e => hp (Or.inl e))]
theorem q_min {m n : Nat} (h : m < 2147483648) (k : n < 2147483648) : p_min (Int32.ofNat m) (Int32.ofNat n) = Int32.ofNat (min m n) := by
  unfold p_min
  simp only [q_lt k h]
  split
  · rw [Nat.min_eq_right (by omega)]
  · rw [Nat.min_eq_left (by omega)]
theorem qB.append {w : PW} {a r mo n : Nat} {L : List Int32} {f : Nat → Int32} (h : qB w a r mo n L f) (b : Int32) :
    ∃ v w' r' n' f', fBytes_append a b w = some (.inl (some (.int v)), w') ∧ v = (if L.length < mo then 1 else 0) ∧ qB w' a r' mo n' (q_app mo L b) f' ∧ qF (fun x => x = a ∨ x = r) w w' ∧ (r' = r ∨ w.1.length ≤ r') ∧ n ≤ n' ∧ w'.2.2 + 7 * n ≤ w.2.2 + 7 * n' := by
  have h0 := h
  have hne := h.ne
  obtain ⟨ho, hd, h1, h2, h3, h4, h5, h6, h7⟩ := h
  have eI0 : p_getI w a 2 0 = some (Int32.ofNat mo) := q_getI ho rfl
  have eI2 : p_getI w a 2 2 = some (Int32.ofNat L.length) := q_getI ho rfl
  have eR1 : p_getR w a 2 1 = some r := q_getR ho rfl
  have eL := q_len hd
  have ha : a < w.1.length := q_lt_len ho
  have hr : r < w.1.length := q_lt_len hd
  unfold fBytes_append q_app
  simp only [eI0, eI2, eR1, eL, Option.bind_some, q_lt (m := L.length) (n := mo) (by omega) (by omega), q_lt (m := L.length) (n := n) (by omega) (by omega)]
  by_cases hm : L.length < mo
  · simp only [hm, if_true]
    by_cases hn : L.length < n
    · simp only [hn, if_true]
      obtain ⟨w', f', g1, g2, g3, g4⟩ := h0.app50 b hm hn
      exact ⟨1, w', r, n, f', g1, rfl, g2, g3, Or.inl rfl, Nat.le_refl _, by rw [g4]; exact Nat.le_refl _⟩
    · simp only [hn, if_false]
      have eN : L.length = n := by omega
      have e2 : (2 : Int32) * Int32.ofNat n = Int32.ofNat (2 * n) := (Int32.ofNat_mul 2 n).symm
      rw [e2, q_min (by omega) (by omega)]
      have hn2 : n < min mo (2 * n) := by omega
      generalize hN : min mo (2 * n) = n2 at *
      have hn3 : n2 ≤ 20000 := by omega
      have hn4 : n2 + 7 * n ≤ 7 * n2 := by omega
      have hpw : n2 = mo ∨ n2 = 32 ∨ n2 = 64 ∨ n2 = 128 ∨ n2 = 256 ∨ n2 = 512 ∨ n2 = 1024 ∨ n2 = 2048 ∨ n2 = 4096 ∨ n2 = 8192 ∨ n2 = 16384 := by omega
      unfold fAR_copyOf2
      have e3 : Int32.ofNat n2 ≠ Int32.ofNat n := fun e => by
        have := congrArg Int32.toNatClampNeg e
        rw [q_tno (by omega), q_tno (by omega)] at this
        omega
      simp only [eL, Option.bind_some, e3, not_false_eq_true, if_true]
      obtain ⟨w1, g1, s1, F1⟩ := o_newA w 1 1 n2 (by omega) (by omega)
      rw [g1]
      have hd1 := F1.at hd
      rw [q_len hd1, Option.bind_some, q_min (by omega) (by omega), Nat.min_eq_left (by omega)]
      obtain ⟨w2, g2, s2, F2⟩ := o_copy (ty := .byte) (n := n) hd1 s1 (by omega) (Nat.le_refl _) (by omega) (fun i _ => h6 i)
      rw [g2, Option.bind_some, q_call, q_kR]
      have ho2 := F2.at (F1.at ho) (by omega)
      obtain ⟨w3, g3, s3, F3⟩ := o_put (k := 1) ho2 (by simp) (.ref w.1.length)
      rw [g3, Option.bind_some]
      have hB : qB w3 a w.1.length mo n2 L (va_cpy f (fun _ => 0) 0 0 n) := by
        refine ⟨s3, F3.at s2 (by omega), by omega, h2, h3, hpw, by omega, fun i => ?_, fun i hi => ?_⟩
        · unfold va_cpy
          split
          · exact h6 _
          · rfl
        · unfold va_cpy
          rw [if_pos (by omega), ← h7 i hi]
          congr 2
          omega
      obtain ⟨w', f', k1, k2, k3, k4⟩ := hB.app50 b hm (by omega)
      refine ⟨1, w', w.1.length, n2, f', k1, rfl, k2, ?_, Or.inr (Nat.le_refl _), by omega, by rw [k4, F3.2.2, F2.2.2, F1.2.2.2]; omega⟩
      exact q_fr2 (r' := w.1.length) ((((F1.fr (by omega)).mono (Q := fun x => x = a) (fun _ _ h => h.elim)).tr F2.fr (fun x hx h => by omega)).tr F3.fr (fun _ _ h => h)) k3 (Or.inr (Nat.le_refl _))
  · simp only [hm, if_false]
    exact ⟨0, w, r, n, f, rfl, rfl, h0, qF.rf, Or.inl rfl, Nat.le_refl _, Nat.le_refl _⟩

/-- a row of bytes, as it came of the world w0 -/
def qBS (a : Nat) (w0 : PW) (r0 n0 mo : Nat) (w : PW) (L : List Int32) : Prop := ∃ r n f, qB w a r mo n L f ∧ qF (fun x => x = a ∨ x = r0) w0 w ∧ (r = r0 ∨ w0.1.length ≤ r) ∧ n0 ≤ n ∧ w.2.2 + 7 * n0 ≤ w0.2.2 + 7 * n
theorem qB.bs {w : PW} {a r mo n : Nat} {L : List Int32} {f : Nat → Int32} (h : qB w a r mo n L f) : qBS a w r n mo w L := ⟨r, n, f, h, qF.rf, Or.inl rfl, Nat.le_refl _, Nat.le_refl _⟩
theorem qBS.append {a r0 n0 mo : Nat} {w0 w : PW} {L : List Int32} (h : qBS a w0 r0 n0 mo w L) (b : Int32) : ∃ v w', fBytes_append a b w = some (.inl (some (.int v)), w') ∧ v = (if L.length < mo then 1 else 0) ∧ qBS a w0 r0 n0 mo w' (q_app mo L b) := by
  obtain ⟨r, n, f, h1, h2, h3, h4, h5⟩ := h
  obtain ⟨v, w', r', n', f', k1, k2, k3, k4, k5, k6, k7⟩ := h1.append b
  refine ⟨v, w', k1, k2, r', n', f', k3, ?_, ?_, by omega, by omega⟩
  · refine h2.tr k4 (fun x hx hp => ?_)
    rcases hp with e | e
    · exact Or.inl e
    · rcases h3 with e' | e'
      · exact Or.inr (e.trans e')
      · omega
  · have := h2.1
    rcases k5 with e | e
    · rw [e]; exact h3
    · right; omega
theorem qBS.obj {a r0 n0 mo : Nat} {w0 w : PW} {L : List Int32} (h : qBS a w0 r0 n0 mo w L) : ∃ fs, p_obj w a 2 = some fs := by
  obtain ⟨r, n, f, h1, -⟩ := h
  exact ⟨_, q_obj h1.o⟩
theorem qBS.count {a r0 n0 mo : Nat} {w0 w : PW} {L : List Int32} (h : qBS a w0 r0 n0 mo w L) : p_getI w a 2 2 = some (Int32.ofNat L.length) := by
  obtain ⟨r, n, f, h1, -⟩ := h
  exact q_getI h1.o rfl
theorem qBS.get {a r0 n0 mo : Nat} {w0 w : PW} {L : List Int32} (h : qBS a w0 r0 n0 mo w L) (i : Int32) : fBytes_get a i w = some (.inl (some (.int (if i < 0 then -1 else L[i.toNatClampNeg]?.getD (-1)))), w) := by
  obtain ⟨r, n, f, h1, -⟩ := h
  exact h1.get i
theorem q_and255 (x : Int32) : x &&& 255 &&& 255 = x &&& 255 := by
  apply Int32.toBitVec_inj.mp
  simp only [Int32.toBitVec_and, BitVec.and_assoc, BitVec.and_self]
theorem q_app255 (mo : Nat) (L : List Int32) (b : Int32) : q_app mo L (b &&& 255) = q_app mo L b := by
  unfold q_app
  rw [q_and255]
def q_apn (mo : Nat) (v : Int32) (L : List Int32) : List Int32 → List Int32
  | [] => L
  | s :: t => q_apn mo v (q_app mo L (p_ushr v s)) t
theorem qBS.apn1 {a r0 n0 mo : Nat} {w0 w : PW} {L : List Int32} (h : qBS a w0 r0 n0 mo w L) (v s : Int32) (hs : ¬ s < 0) (n : Nat) : ∃ w', fBytes_appendNumber_7 (n + 1) a v s w = fBytes_appendNumber_7 n a v (s + (-8)) w' ∧ qBS a w0 r0 n0 mo w' (q_app mo L (p_ushr v s)) := by
  obtain ⟨fs, ho⟩ := h.obj
  obtain ⟨v9, w', k1, k2, k3⟩ := h.append (p_ushr v s &&& 255)
  refine ⟨w', ?_, by rw [q_app255] at k3; exact k3⟩
  rw [fBytes_appendNumber_7, if_neg hs, ho, Option.bind_some, k1]
  rfl
theorem qBS.apn4 {a r0 n0 mo : Nat} {w0 w : PW} {L : List Int32} (h : qBS a w0 r0 n0 mo w L) (v : Int32) : ∃ w', fBytes_appendNumber a v 4 w = some (.inl none, w') ∧ qBS a w0 r0 n0 mo w' (q_apn mo v L [24, 16, 8, 0]) := by
  obtain ⟨w1, e1, h1⟩ := h.apn1 v 24 (by decide) 999999
  obtain ⟨w2, e2, h2⟩ := h1.apn1 v 16 (by decide) 999998
  obtain ⟨w3, e3, h3⟩ := h2.apn1 v 8 (by decide) 999997
  obtain ⟨w4, e4, h4⟩ := h3.apn1 v 0 (by decide) 999996
  refine ⟨w4, ?_, h4⟩
  show fBytes_appendNumber_7 (999999 + 1) a v 24 w = _
  rw [e1, show (24 : Int32) + (-8) = 16 from rfl, show (999999 : Nat) = 999998 + 1 from rfl, e2, show (16 : Int32) + (-8) = 8 from rfl, show (999998 : Nat) = 999997 + 1 from rfl, e3, show (8 : Int32) + (-8) = 0 from rfl, show (999997 : Nat) = 999996 + 1 from rfl, e4, show (999996 : Nat) = 999995 + 1 from rfl, fBytes_appendNumber_7, if_pos (by decide)]
theorem qBS.apn2 {a r0 n0 mo : Nat} {w0 w : PW} {L : List Int32} (h : qBS a w0 r0 n0 mo w L) (v : Int32) : ∃ w', fBytes_appendNumber a v 2 w = some (.inl none, w') ∧ qBS a w0 r0 n0 mo w' (q_apn mo v L [8, 0]) := by
  obtain ⟨w1, e1, h1⟩ := h.apn1 v 8 (by decide) 999999
  obtain ⟨w2, e2, h2⟩ := h1.apn1 v 0 (by decide) 999998
  refine ⟨w2, ?_, h2⟩
  show fBytes_appendNumber_7 (999999 + 1) a v 8 w = _
  rw [e1, show (8 : Int32) + (-8) = 0 from rfl, show (999999 : Nat) = 999998 + 1 from rfl, e2, show (999998 : Nat) = 999997 + 1 from rfl, fBytes_appendNumber_7, if_pos (by decide)]
