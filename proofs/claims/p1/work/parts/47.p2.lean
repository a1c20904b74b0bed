/-- the reference: its object, and its rows from 38 to 65 -/
def mO (z : Nat → Int32) : List Value := [.int (z 0), .int (z 1), .int (z 2), .ref 38, .ref 39, .ref 40, .ref 41, .ref 42, .int (z 8), .ref 43, .ref 44, .ref 45, .ref 46, .ref 47, .int (z 14), .ref 48, .ref 49, .ref 50, .ref 51, .ref 52, .int (z 20), .ref 53, .int (z 22), .ref 54, .int (z 24), .int (z 25), .int (z 26), .int (z 27), .ref 55, .ref 56, .int (z 30), .ref 57, .ref 58, .ref 59, .ref 60, .ref 61, .ref 62, .ref 63, .ref 64, .int (z 39), .int (z 40), .int (z 41), .ref 65, .int (z 43)]
def mT (k : Nat) : Nat := if k = 39 ∨ k = 40 ∨ k = 48 ∨ k = 62 ∨ k = 63 then 2 else 0
def mL (k : Nat) : Nat := match k with
  | 38 => 2750 | 39 => 250 | 40 => 250 | 41 => 8 | 42 => 10 | 43 => 40 | 44 => 40 | 45 => 800 | 46 => 40 | 47 => 12000 | 48 => 8 | 49 => 8 | 50 => 8 | 51 => 320 | 52 => 40000 | 53 => 20000 | 54 => 20000 | 55 => 2600 | 56 => 2600 | 57 => 300 | 58 => 300 | 59 => 300 | 60 => 300 | 61 => 300 | 62 => 300 | 63 => 300 | 64 => 24 | _ => 200
def qM (w : PW) (z : Nat → Int32) (g : Nat → Nat → Int32) : Prop := w.1[37]? = some (.inr (10, mO z)) ∧ ∀ k, 38 ≤ k → k < 66 → w.1[k]? = some (.inl (mT k, mL k, .inl (g k)))
def ug (g : Nat → Nat → Int32) (k i : Nat) (v : Int32) : Nat → Nat → Int32 := fun j => if j = k then upd (g k) i v else g j
theorem ug_self (g : Nat → Nat → Int32) (k i : Nat) (v : Int32) : ug g k i v k = upd (g k) i v := if_pos rfl
theorem ug_ne (g : Nat → Nat → Int32) {k j : Nat} (i : Nat) (v : Int32) (h : j ≠ k) : ug g k i v j = g j := if_neg h
section
variable {w : PW} {z : Nat → Int32} {g : Nat → Nat → Int32}
theorem qM.keep {w' : PW} (h : qM w z g) (hk : ∀ x, 37 ≤ x → x < 66 → w'.1[x]? = w.1[x]?) : qM w' z g := ⟨by rw [hk 37 (by omega) (by omega), h.1], fun k h1 h2 => by rw [hk k (by omega) h2, h.2 k h1 h2]⟩
theorem qM.obj (h : qM w z g) : p_obj w 37 10 = some (mO z) := q_obj h.1
theorem qM.I (h : qM w z g) (k : Nat) (hk : (mO z)[k]? = some (.int (z k))) : p_getI w 37 10 k = some (z k) := q_getI h.1 hk
theorem qM.R (h : qM w z g) (k r : Nat) (hk : (mO z)[k]? = some (.ref r)) : p_getR w 37 10 k = some r := q_getR h.1 hk
theorem qM.ld (h : qM w z g) (k t : Nat) (i : Int32) (ht : mT k = t) (h1 : 38 ≤ k) (h2 : k < 66) (i0 : 0 ≤ i) (i1 : i < Int32.ofNat (mL k)) (hl : mL k < 2147483648) : p_ald w k t i = some (g k i.toNatClampNeg) := by
  subst ht
  exact q_ald (h.2 k h1 h2) i0 i1 hl
theorem qM.put (h : qM w z g) (k : Nat) (v : Int32) (hk : k < 44) (hs : (mO z).set k (.int v) = mO (upd z k v)) : ∃ w', p_put w 37 10 k (.int v) = some w' ∧ qM w' (upd z k v) g ∧ qI 37 66 w w' := by
  obtain ⟨w', g1, s1, F1⟩ := o_put (k := k) h.1 hk (.int v)
  refine ⟨w', g1, ⟨by rw [s1, hs], fun j h1 h2 => F1.at (h.2 j h1 h2) (by omega)⟩, F1.i (by omega) (by omega)⟩
theorem qM.st (h : qM w z g) (k t : Nat) (i v : Int32) (ht : mT k = t) (h1 : 38 ≤ k) (h2 : k < 66) (i0 : 0 ≤ i) (i1 : i < Int32.ofNat (mL k)) (hl : mL k < 2147483648) : ∃ w', p_ast w k t i v = some w' ∧ qM w' z (ug g k i.toNatClampNeg v) ∧ qI 37 66 w w' := by
  subst ht
  obtain ⟨w', g1, s1, F1⟩ := o_ast (h.2 k h1 h2) i0 i1 hl v
  refine ⟨w', g1, ⟨F1.at h.1 (by omega), fun j k1 k2 => ?_⟩, F1.i (by omega) (by omega)⟩
  by_cases e : j = k
  · subst e
    rw [s1, ug_self]
  · rw [F1.at (h.2 j k1 k2) e, ug_ne g _ _ e]
def q_pl (t c : Int32) : Int32 := 5 * (t + 1) + c + 1
theorem q_placeOf (t c : Int32) (w : PW) : fD_placeOf t c w = some (.inl (some (.int (q_pl t c))), w) := rfl
theorem qM.mput (h : qM w z g) (pl what v : Int32) (p0 : 0 ≤ pl) (p1 : pl < 250) (w0 : 0 ≤ what) (w1 : what ≤ 10) : ∃ w', fD_put 37 pl what v w = some (.inl none, w') ∧ qM w' z (ug g 38 (11 * pl + what).toNatClampNeg v) ∧ qI 37 66 w w' := by
  unfold fD_put
  rw [h.R 3 38 rfl, Option.bind_some]
  obtain ⟨w', g1, q1, F1⟩ := h.st 38 0 (11 * pl + what) v rfl (by omega) (by omega) (by grind) (by show _ < (2750 : Int32); grind) (by decide)
  rw [g1]
  exact ⟨w', rfl, q1, F1⟩
theorem qM.mget (h : qM w z g) (pl what : Int32) (p0 : 0 ≤ pl) (p1 : pl < 250) (w0 : 0 ≤ what) (w1 : what ≤ 10) : fD_get 37 pl what w = some (.inl (some (.int (g 38 (11 * pl + what).toNatClampNeg))), w) := by
  unfold fD_get
  rw [h.R 3 38 rfl, Option.bind_some, h.ld 38 0 (11 * pl + what) rfl (by omega) (by omega) (by grind) (by show _ < (2750 : Int32); grind) (by decide)]
  rfl
/-- the sizes' and rows' start -/
def q_bg2 (g : Nat → Nat → Int32) (t : Int32) : Nat → Nat → Nat → Nat → Int32
  | 0, _ => g
  | n + 1, i => q_bg2 (ug (ug g 39 (t + Int32.ofNat i).toNatClampNeg (if i = 0 then 1 else 0)) 40 (t + Int32.ofNat i).toNatClampNeg (if i = 0 then 1 else 0)) t n (i + 1)
def q_bg3 (g : Nat → Nat → Int32) (t : Int32) : Nat → Nat → Int32 := ug (ug (ug (ug (ug (ug (ug g 38 (11 * t + 4).toNatClampNeg 0) 38 (11 * t + 5).toNatClampNeg 1) 38 (11 * t + 6).toNatClampNeg 5) 38 (11 * t + 7).toNatClampNeg 4) 38 (11 * t + 8).toNatClampNeg 1) 38 (11 * t + 9).toNatClampNeg 8) 38 (11 * t + 10).toNatClampNeg 2
theorem qM.b98 (t : Int32) (t0 : 0 ≤ t) (t1 : t ≤ 125) : ∀ (n i F : Nat) (w : PW) (g : Nat → Nat → Int32), qM w z g → n < F → i + n = 125 → ∃ w', fD_begin_98 F 37 t (Int32.ofNat i) w = some (.inl none, w') ∧ qM w' z (q_bg3 (q_bg2 g t n i) t) ∧ qI 37 66 w w'
  | 0, i, F + 1, w, g, h, _, hi => by
    have : i = 125 := by omega
    subst this
    rw [fD_begin_98, if_pos (by decide)]
    simp only [h.obj, Option.bind_some]
    obtain ⟨w1, e1, h1, F1⟩ := h.mput t 4 0 t0 (by grind) (by decide) (by decide)
    rw [e1, q_call, q_kV]; simp only [h1.obj, Option.bind_some]
    obtain ⟨w2, e2, h2, F2⟩ := h1.mput t 5 1 t0 (by grind) (by decide) (by decide)
    rw [e2, q_call, q_kV]; simp only [h2.obj, Option.bind_some]
    obtain ⟨w3, e3, h3, F3⟩ := h2.mput t 6 5 t0 (by grind) (by decide) (by decide)
    rw [e3, q_call, q_kV]; simp only [h3.obj, Option.bind_some]
    obtain ⟨w4, e4, h4, F4⟩ := h3.mput t 7 4 t0 (by grind) (by decide) (by decide)
    rw [e4, q_call, q_kV]; simp only [h4.obj, Option.bind_some]
    obtain ⟨w5, e5, h5, F5⟩ := h4.mput t 8 1 t0 (by grind) (by decide) (by decide)
    rw [e5, q_call, q_kV]; simp only [h5.obj, Option.bind_some]
    obtain ⟨w6, e6, h6, F6⟩ := h5.mput t 9 8 t0 (by grind) (by decide) (by decide)
    rw [e6, q_call, q_kV]; simp only [h6.obj, Option.bind_some]
    obtain ⟨w7, e7, h7, F7⟩ := h6.mput t 10 2 t0 (by grind) (by decide) (by decide)
    rw [e7, q_call, q_kV]
    exact ⟨w7, rfl, h7, (((((F1.tr F2).tr F3).tr F4).tr F5).tr F6).tr F7⟩
  | n + 1, i, F + 1, w, g, h, hF, hi => by
    have h1 : ¬ (125 : Int32) ≤ Int32.ofNat i := fun k => by
      have := (q_le (m := 125) (n := i) (by omega) (by omega)).mp k
      omega
    have i0 : 0 ≤ Int32.ofNat i := q_ge0 i (by omega)
    have i1 : Int32.ofNat i < 125 := (q_lt (m := i) (n := 125) (by omega) (by omega)).mpr (by omega)
    have e2 : Int32.ofNat i + 1 = Int32.ofNat (i + 1) := (Int32.ofNat_add i 1).symm
    have hz : (Int32.ofNat i = 0) ↔ i = 0 := by
      constructor
      · intro e
        have := congrArg Int32.toNatClampNeg e
        rw [q_tno (by omega)] at this
        exact this
      · intro e; rw [e]; rfl
    have key : ∀ v : Int32, (v = 0 ∨ v = 1) → (v = if i = 0 then 1 else 0) → ∃ w', fD_begin_120 (fD_begin_98 F) 37 t (Int32.ofNat i) v (t + Int32.ofNat i) 39 w = some (.inl none, w') ∧ qM w' z (q_bg3 (q_bg2 g t (n + 1) i) t) ∧ qI 37 66 w w' := by
      intro v hv hv2
      unfold fD_begin_120
      have en : vp_nar .boolean v = v := by rcases hv with e | e <;> subst e <;> decide
      obtain ⟨w1, g1, q1, F1⟩ := h.st 39 2 (t + Int32.ofNat i) v rfl (by omega) (by omega) (by grind) (by show _ < (250 : Int32); grind) (by decide)
      rw [en, g1, Option.bind_some, q1.R 5 40 rfl, Option.bind_some]
      obtain ⟨w2, g2, q2, F2⟩ := q1.st 40 2 (t + Int32.ofNat i) v rfl (by omega) (by omega) (by grind) (by show _ < (250 : Int32); grind) (by decide)
      obtain ⟨w3, g3, q3, F3⟩ := qM.b98 t t0 t1 n (i + 1) F w2 _ q2 (by omega) (by omega)
      have e9 : (if ¬ Int32.ofNat i = 0 then ((p_ast w1 40 2 (t + Int32.ofNat i) (vp_nar .boolean (0 : Int32))).bind fun w137 => p_let (Int32.ofNat i + (1 : Int32)) fun (l3_138 : Int32) => (fD_begin_98 F) 37 t l3_138 w137) else ((p_ast w1 40 2 (t + Int32.ofNat i) (vp_nar .boolean (1 : Int32))).bind fun w137 => p_let (Int32.ofNat i + (1 : Int32)) fun (l3_138 : Int32) => (fD_begin_98 F) 37 t l3_138 w137)) = (p_ast w1 40 2 (t + Int32.ofNat i) v).bind fun w137 => fD_begin_98 F 37 t (Int32.ofNat (i + 1)) w137 := by
        rw [← e2]
        by_cases hi0 : i = 0
        · have hv3 : v = 1 := by rw [hv2, if_pos hi0]
          rw [if_neg (not_not_intro (hz.mpr hi0)), q_nar1, hv3]
          rfl
        · have hv3 : v = 0 := by rw [hv2, if_neg hi0]
          rw [if_pos (fun e => hi0 (hz.mp e)), q_nar0, hv3]
          rfl
      refine ⟨w3, ?_, ?_, (F1.tr F2).tr F3⟩
      · rw [e9, g2, Option.bind_some, g3]
      · rw [q_bg2, ← hv2]
        exact q3
    rw [fD_begin_98, if_neg h1, h.R 4 39 rfl, Option.bind_some]
    by_cases hi0 : i = 0
    · rw [if_neg (not_not_intro (hz.mpr hi0))]
      exact key 1 (Or.inr rfl) (by rw [if_pos hi0])
    · rw [if_pos (fun e => hi0 (hz.mp e))]
      exact key 0 (Or.inl rfl) (by rw [if_neg hi0])
end
