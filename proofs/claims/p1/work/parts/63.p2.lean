section
variable {w : PW} {z : Nat → Int32} {g : Nat → Nat → Int32} {tw th : Int32} {sz dp nm sy sp : Nat → Int32} {e : Value} {P : List Nat} {rd : Int32}
/-- an array's place told as a number -/
theorem qM.ldn (h : qM w z g) (k t i : Nat) (ht : mT k = t) (h1 : 38 ≤ k) (h2 : k < 66) (hi : i < mL k) (hl : mL k ≤ 40000) : p_ald w k t (Int32.ofNat i) = some (g k i) := by
  rw [h.ld k t (Int32.ofNat i) ht h1 h2 (q_ge0 i (by omega)) ((q_lt (by omega) (by omega)).mpr hi) (by omega), q_tno (by omega)]
theorem qM.stn (h : qM w z g) (k t i : Nat) (v : Int32) (ht : mT k = t) (h1 : 38 ≤ k) (h2 : k < 66) (hi : i < mL k) (hl : mL k ≤ 40000) : ∃ w', p_ast w k t (Int32.ofNat i) v = some w' ∧ qM w' z (ug g k i v) ∧ qI 37 66 w w' := by
  obtain ⟨w', g1, q1, F1⟩ := h.st k t (Int32.ofNat i) v ht h1 h2 (q_ge0 i (by omega)) ((q_lt (by omega) (by omega)).mpr hi) (by omega)
  rw [q_tno (by omega)] at q1
  exact ⟨w', g1, q1, F1⟩
theorem q_on (i : Int32) (h : 0 ≤ i.toInt) : i = Int32.ofNat i.toInt.toNat := by
  apply q_i32
  have := q_top i
  rw [q_ofi (by omega)]
  omega
theorem q_sub1 {n : Int32} (h : 0 ≤ n.toInt) : (Int32.toInt64 n - 1).toInt = n.toInt - 1 := by
  have e0 : (1 : Int64).toInt = 1 := rfl
  have := q_top n
  rw [q_sub64, q_64, e0]
  · rw [q_64, e0]; omega
  · rw [q_64, e0]; omega
theorem q_e0 : (0 : Int64).toInt = 0 := rfl
theorem q_e255 : (255 : Int64).toInt = 255 := rfl
theorem qM.tp36 (h : qM w z g) (n : Nat) (hz : z 8 = Int32.ofNat n) (hn : n ≤ 40) (t s0 : Int32) (hs : s0 = 1 ∨ s0 = 2) : ∃ w', fD_tilePart_36 37 t s0 37 w = some (.inl (some (.int 0)), w') ∧ qM w' (upd z 0 s0) g ∧ qI 37 66 w w' := by
  obtain ⟨w1, g1, q1, F1⟩ := h.put 0 s0 (by omega) rfl
  unfold fD_tilePart_36
  rw [g1, Option.bind_some, q1.I 0 rfl, Option.bind_some, show upd z 0 s0 0 = s0 from rfl, if_neg (by rcases hs with e | e <;> subst e <;> decide)]
  exact ⟨w1, rfl, q1, F1⟩
/-- rows after a tilePart -/
def q_tpg (g : Nat → Nat → Int32) (n : Nat) (t : Int32) : Nat → Nat → Int32 := ug (ug (ug g 43 n t) 44 n 0) 46 n 0
theorem qM.tilePart (h : qM w z g) (k : qR tw th sz dp nm sy sp g) (n : Nat) (hz : z 8 = Int32.ofNat n) (hn : n ≤ 40) (t : Int32) :
    ∃ w' b, fD_tilePart 37 t w = some (.inl (some (.int b)), w') ∧ qI 37 66 w w' ∧ (¬ q_tc (q_nt tw th sz) n t = 0 → qM w' (upd z 0 (q_tc (q_nt tw th sz) n t)) g) ∧ (q_tc (q_nt tw th sz) n t = 0 → b = Int32.ofNat n ∧ qM w' (upd (upd z 0 0) 8 (Int32.ofNat (n + 1))) (q_tpg g n t)) := by
  have hnt := k.nt
  unfold fD_tilePart
  rw [h.obj, Option.bind_some, h.tiles k, q_call, q_kI, q_in, q_call, q_kI, q_64, q_sub1 (by rw [hnt.1]; omega), hnt.1, q_e0]
  unfold q_tc
  by_cases ht : 0 ≤ t.toInt ∧ t.toInt < q_nt tw th sz
  · rw [if_pos (show 0 ≤ t.toInt ∧ t.toInt ≤ q_nt tw th sz - 1 by omega), if_pos (by decide), if_neg (not_not_intro ht), h.I 8 rfl, Option.bind_some, hz]
    by_cases hf : 40 ≤ n
    · have : n = 40 := by omega
      subst this
      rw [if_neg (show ¬ ¬ Int32.ofNat 40 = 40 from not_not_intro rfl), if_pos hf]
      obtain ⟨w1, g1, q1, F1⟩ := h.tp36 40 hz hn t 2 (Or.inr rfl)
      exact ⟨w1, 0, g1, F1, fun _ => q1, fun e => absurd e (by decide)⟩
    · have hne : ¬ Int32.ofNat n = 40 := fun e => by
        have := congrArg Int32.toNatClampNeg e
        rw [q_tno (by omega)] at this
        have e40 : (40 : Int32).toNatClampNeg = 40 := rfl
        omega
      rw [if_pos hne, if_neg hf]
      obtain ⟨w1, g1, q1, F1⟩ := h.put 0 0 (by omega) rfl
      unfold fD_tilePart_36
      rw [g1, Option.bind_some, q1.I 0 rfl, Option.bind_some, show upd z 0 0 0 = 0 from rfl, if_pos (by decide)]
      have z1 : upd z 0 0 8 = Int32.ofNat n := hz
      rw [q1.R 9 43 rfl, Option.bind_some, q1.I 8 rfl, Option.bind_some, z1]
      obtain ⟨w2, g2, q2, F2⟩ := q1.stn 43 0 n t rfl (by omega) (by omega) (by show n < 40; omega) (by decide)
      rw [g2, Option.bind_some, q2.R 10 44 rfl, Option.bind_some, q2.I 8 rfl, Option.bind_some, z1]
      obtain ⟨w3, g3, q3, F3⟩ := q2.stn 44 0 n 0 rfl (by omega) (by omega) (by show n < 40; omega) (by decide)
      rw [g3, Option.bind_some, q3.R 12 46 rfl, Option.bind_some, q3.I 8 rfl, Option.bind_some, z1]
      obtain ⟨w4, g4, q4, F4⟩ := q3.stn 46 0 n 0 rfl (by omega) (by omega) (by show n < 40; omega) (by decide)
      rw [g4, Option.bind_some, q4.I 8 rfl, Option.bind_some, z1, show Int32.ofNat n + 1 = Int32.ofNat (n + 1) from (Int32.ofNat_add n 1).symm]
      obtain ⟨w5, g5, q5, F5⟩ := q4.put 8 (Int32.ofNat (n + 1)) (by omega) rfl
      rw [g5, Option.bind_some, q5.I 8 rfl, Option.bind_some, show upd (upd z 0 0) 8 (Int32.ofNat (n + 1)) 8 = Int32.ofNat (n + 1) from rfl, show Int32.ofNat (n + 1) - 1 = Int32.ofNat n by rw [show Int32.ofNat (n + 1) = Int32.ofNat n + 1 from Int32.ofNat_add n 1]; grind]
      exact ⟨w5, _, rfl, (((F1.tr F2).tr F3).tr F4).tr F5, fun hh => absurd rfl hh, fun _ => ⟨rfl, q5⟩⟩
  · rw [if_neg (show ¬ (0 ≤ t.toInt ∧ t.toInt ≤ q_nt tw th sz - 1) by omega), if_neg (by decide), if_pos ht]
    obtain ⟨w1, g1, q1, F1⟩ := h.tp36 n hz hn t 1 (Or.inl rfl)
    exact ⟨w1, 0, g1, F1, fun _ => q1, fun e => absurd e (by decide)⟩
/-- packet -/
def q_pc (n : Nat) (pk : Nat → Int32) (p : Int32) : Int32 := if ¬ (0 ≤ p.toInt ∧ p.toInt < n) then 1 else if pk p.toInt.toNat = 20 then 2 else 0
theorem qM.isPart (h : qM w z g) (n : Nat) (hz : z 8 = Int32.ofNat n) (hn : n ≤ 40) (p : Int32) : fD_isPart 37 p w = some (.inl (some (.int (if 0 ≤ p.toInt ∧ p.toInt < n then 1 else 0))), w) := by
  unfold fD_isPart
  rw [h.I 8 rfl, Option.bind_some, hz, q_in, q_call, q_kI, q_64, q_sub1 (by rw [q_ofi (by omega)]; omega), q_ofi (by omega), q_e0]
  by_cases hp : 0 ≤ p.toInt ∧ p.toInt < n
  · rw [if_pos (show 0 ≤ p.toInt ∧ p.toInt ≤ (n : Int) - 1 by omega), if_pos hp]
    rfl
  · rw [if_neg (show ¬ (0 ≤ p.toInt ∧ p.toInt ≤ (n : Int) - 1) by omega), if_neg hp]
    rfl
theorem qM.packet1 (h : qM w z g) (n : Nat) (hz : z 8 = Int32.ofNat n) (hn : n ≤ 40) (p : Int32) (hp : ¬ (0 ≤ p.toInt ∧ p.toInt < n)) : ∃ w', fD_packet 37 p w = some (.inl (some (.int 0)), w') ∧ qM w' (upd z 0 1) g ∧ qI 37 66 w w' := by
  unfold fD_packet
  rw [h.obj, Option.bind_some, h.isPart n hz hn, q_call, q_kI, if_neg hp, if_neg (by decide)]
  unfold fD_packet_29
  obtain ⟨w1, g1, q1, F1⟩ := h.put 0 1 (by omega) rfl
  rw [g1, Option.bind_some, q1.I 0 rfl, Option.bind_some, show upd z 0 1 0 = 1 from rfl, if_neg (by decide)]
  exact ⟨w1, rfl, q1, F1⟩
theorem qM.byteOf1 (h : qM w z g) (n : Nat) (hz : z 8 = Int32.ofNat n) (hn : n ≤ 40) (p b : Int32) (hp : ¬ (0 ≤ p.toInt ∧ p.toInt < n)) : ∃ w', fD_byteOf 37 p b w = some (.inl (some (.int 0)), w') ∧ qM w' (upd z 0 1) g ∧ qI 37 66 w w' := by
  unfold fD_byteOf
  rw [h.obj, Option.bind_some, h.isPart n hz hn, q_call, q_kI, if_neg hp, if_neg (by decide)]
  unfold fD_byteOf_59
  obtain ⟨w1, g1, q1, F1⟩ := h.put 0 1 (by omega) rfl
  rw [g1, Option.bind_some, q1.I 0 rfl, Option.bind_some, show upd z 0 1 0 = 1 from rfl, if_neg (by decide)]
  exact ⟨w1, rfl, q1, F1⟩
theorem qM.boxByte1 (h : qM w z g) (n : Nat) (hz : z 14 = Int32.ofNat n) (hn : n ≤ 8) (p b : Int32) (hp : ¬ (0 ≤ p.toInt ∧ p.toInt < n)) : ∃ w', fD_boxByte 37 p b w = some (.inl (some (.int 0)), w') ∧ qM w' (upd z 0 1) g ∧ qI 37 66 w w' := by
  unfold fD_boxByte
  rw [h.I 14 rfl, Option.bind_some, hz, q_in, q_call, q_kI, q_64, q_sub1 (by rw [q_ofi (by omega)]; omega), q_ofi (by omega), q_e0, if_neg (show ¬ (0 ≤ p.toInt ∧ p.toInt ≤ (n : Int) - 1) by omega), if_neg (by decide)]
  unfold fD_boxByte_53
  obtain ⟨w1, g1, q1, F1⟩ := h.put 0 1 (by omega) rfl
  rw [g1, Option.bind_some, q1.I 0 rfl, Option.bind_some, show upd z 0 1 0 = 1 from rfl, if_neg (by decide)]
  exact ⟨w1, rfl, q1, F1⟩
/-- the class's side of the same refusals -/
theorem q_nin {n : Nat} {p : Int32} (hn : n ≤ 20000) (hp : ¬ (0 ≤ p.toInt ∧ p.toInt < n)) : p < 0 ∨ ¬ p < Int32.ofNat n := by
  by_cases h : p < 0
  · exact Or.inl h
  · right
    rw [q_lti, q_ofi (by omega)]
    have e0 : (0 : Int32).toInt = 0 := rfl
    rw [q_lti] at h
    omega
theorem qW_packet1 (ho : qCo w rd) (hl : qL w 7 e P) (p : Int32) (hp : ¬ (0 ≤ p.toInt ∧ p.toInt < P.length)) : ∃ w', fW_packet 0 p w = some (.inr "java/lang/IndexOutOfBoundsException", w') ∧ qT w w' := by
  have h40 : P.length ≤ 40 := hl.choose_spec.2.1
  obtain ⟨fl, hlo⟩ := hl.obj
  unfold fW_packet fW_packet_15
  rcases q_nin (by omega) hp with h | h
  · rw [if_pos h]; exact q_throw _ _
  · rw [q_getR (k := 1) ho rfl, Option.bind_some, hlo, Option.bind_some, hl.size, q_call, q_kI, if_neg h]
    split <;> exact q_throw _ _
theorem qW_byteOf1 (ho : qCo w rd) (hl : qL w 7 e P) (p b : Int32) (hp : ¬ (0 ≤ p.toInt ∧ p.toInt < P.length)) : ∃ w', fW_byteOf 0 p b w = some (.inr "java/lang/IndexOutOfBoundsException", w') ∧ qT w w' := by
  have h40 : P.length ≤ 40 := hl.choose_spec.2.1
  obtain ⟨fl, hlo⟩ := hl.obj
  unfold fW_byteOf fW_byteOf_15
  rcases q_nin (by omega) hp with h | h
  · rw [if_pos h]; exact q_throw _ _
  · rw [q_getR (k := 1) ho rfl, Option.bind_some, hlo, Option.bind_some, hl.size, q_call, q_kI, if_neg h]
    split <;> exact q_throw _ _
theorem qW_boxByte1 (ho : qCo w rd) (hl : qL w 8 e P) (p b : Int32) (hp : ¬ (0 ≤ p.toInt ∧ p.toInt < P.length)) : ∃ w', fW_boxByte 0 p b w = some (.inr "java/lang/IndexOutOfBoundsException", w') ∧ qT w w' := by
  have h40 : P.length ≤ 40 := hl.choose_spec.2.1
  obtain ⟨fl, hlo⟩ := hl.obj
  unfold fW_boxByte fW_boxByte_15
  rcases q_nin (by omega) hp with h | h
  · rw [if_pos h]; exact q_throw _ _
  · rw [q_getR (k := 2) ho rfl, Option.bind_some, hlo, Option.bind_some, hl.size, q_call, q_kI, if_neg h]
    split <;> exact q_throw _ _
end
