/-- what reading a stream leaves alone in the reference's rows -/
def gF (g g' : Nat → Nat → Int32) : Prop := (∀ k, 43 ≤ k → k ≤ 56 → g' k = g k) ∧ (∀ i, i < 1375 → g' 38 i = g 38 i) ∧ (∀ i, i < 125 → g' 39 i = g 39 i ∧ g' 40 i = g 40 i) ∧ (∀ i, i < 4 → g' 41 i = g 41 i) ∧ (∀ i, i < 5 → g' 42 i = g 42 i) ∧ (g01 g → g01 g')
theorem gF.rf {g : Nat → Nat → Int32} : gF g g := ⟨fun _ _ _ => rfl, fun _ _ => rfl, fun _ _ => ⟨rfl, rfl⟩, fun _ _ => rfl, fun _ _ => rfl, id⟩
theorem gF.tr {g g' g'' : Nat → Nat → Int32} (h : gF g g') (k : gF g' g'') : gF g g'' := ⟨fun j a b => (k.1 j a b).trans (h.1 j a b), fun i hi => (k.2.1 i hi).trans (h.2.1 i hi), fun i hi => ⟨(k.2.2.1 i hi).1.trans (h.2.2.1 i hi).1, (k.2.2.1 i hi).2.trans (h.2.2.1 i hi).2⟩, fun i hi => (k.2.2.2.1 i hi).trans (h.2.2.2.1 i hi), fun i hi => (k.2.2.2.2.1 i hi).trans (h.2.2.2.2.1 i hi), fun y => k.2.2.2.2.2 (h.2.2.2.2.2 y)⟩
theorem gS.f {g g' : Nat → Nat → Int32} (h : gS g g') : gF g g' := ⟨fun k a b => h.1 k (by omega) (by omega) (by omega), h.2.1, h.2.2.1, fun i _ => by rw [h.1 41 (by decide) (by decide) (by decide)], fun i _ => by rw [h.1 42 (by decide) (by decide) (by decide)], h.2.2.2⟩
theorem gZ.f {g g' : Nat → Nat → Int32} (h : gZ g g') : gF g g' := ⟨fun k a b => h.1 k (by omega) (by omega), fun i _ => by rw [h.1 38 (by decide) (by decide)], fun i _ => ⟨by rw [h.1 39 (by decide) (by decide)], by rw [h.1 40 (by decide) (by decide)]⟩, h.2.1, h.2.2, fun y j => by rw [h.1 39 (by decide) (by decide), h.1 40 (by decide) (by decide)]; exact y j⟩
theorem gF.y {g g' : Nat → Nat → Int32} {L : List Int32} (h : gF g g') (hy : qY g 54 L) : qY g' 54 L := fun i hi => by rw [h.1 54 (by omega) (by omega)]; exact hy i hi
theorem q_isSeg (m : Nat) (hm : m ≤ 255) (w : PW) : fD_isSegment (Int32.ofNat m) w = some (.inl (some (.int (if m = 82 ∨ m = 83 ∨ m = 92 ∨ m = 93 then 1 else 0))), w) := by
  have c1 : Int32.ofNat m = 82 ↔ m = 82 := q_of32 (y := 82) (by omega) (by omega)
  have c2 : Int32.ofNat m = 83 ↔ m = 83 := q_of32 (y := 83) (by omega) (by omega)
  have c3 : Int32.ofNat m = 92 ↔ m = 92 := q_of32 (y := 92) (by omega) (by omega)
  have c4 : Int32.ofNat m = 93 ↔ m = 93 := q_of32 (y := 93) (by omega) (by omega)
  unfold fD_isSegment
  by_cases a1 : m = 82
  · rw [if_pos (c1.mpr a1), if_pos (Or.inl a1)]; rfl
  · rw [if_neg (fun y => a1 (c1.mp y))]
    by_cases a2 : m = 83
    · rw [if_pos (c2.mpr a2), if_pos (Or.inr (Or.inl a2))]; rfl
    · rw [if_neg (fun y => a2 (c2.mp y))]
      by_cases a3 : m = 92
      · rw [if_pos (c3.mpr a3), if_pos (Or.inr (Or.inr (Or.inl a3)))]; rfl
      · rw [if_neg (fun y => a3 (c3.mp y))]
        by_cases a4 : m = 93
        · rw [if_neg (not_not_intro (c4.mpr a4)), if_pos (Or.inr (Or.inr (Or.inr a4)))]; rfl
        · rw [if_pos (fun y => a4 (c4.mp y)), if_neg (by omega)]; rfl
section
variable {w : PW} {z : Nat → Int32} {g : Nat → Nat → Int32} {L : List Int32}
/-- what a reader of heads leaves -/
def qHe (w : PW) (z : Nat → Int32) (g : Nat → Nat → Int32) (to : Nat) (o : Option Nat × Nat) (r : PX) : Prop := ∃ w' z' g', r = some (.inl (some (.int (o1 o.1))), w') ∧ qM w' z' g' ∧ gS g g' ∧ qI 37 66 w w' ∧ (∀ k, k ≠ 39 → k ≠ 41 → z' k = z k) ∧ z' 41 = oN o.1 ∧ (o.1 = none → z' 39 = Int32.ofNat o.2 ∧ o.2 ≤ to)
theorem qHe.no (h : qM w z g) (hz : z 41 = -1) (p to : Nat) (h39 : z 39 = Int32.ofNat p) : qHe w z g to (some p, p) (fD_readHead_128 37 w) ∧ qHe w z g to (some p, p) (fD_readHead_165 37 w) := by
  obtain ⟨w1, e1, q1, F1⟩ := h.fails hz (z 39)
  unfold fD_readHead_128 fD_readHead_165
  rw [h.I 39 rfl, Option.bind_some, h.obj, Option.bind_some, e1, q_call, q_kI]
  have fin : qHe w z g to (some p, p) (some (.inl (some (.int 0)), w1)) := ⟨w1, _, g, rfl, q1, gS.rf, F1, fun k a b => by unfold upd; rw [if_neg b], (if_pos rfl).trans h39, fun e => by cases e⟩
  refine ⟨fin, ?_⟩
  rw [Option.bind_some, Option.bind_some, e1, q_call, q_kI, if_pos rfl]
  exact fin
theorem qHe.h145 (h : qM w z g) (hz : z 41 = -1) (p to : Nat) (h39 : z 39 = Int32.ofNat p) (hp : p ≤ to) (a b : Bool) (ha : g 39 125 = 0 ↔ a = false) (hb : g 40 125 = 0 ↔ b = false) : qHe w z g to (if a = true ∧ b = true then (none, p) else (some p, p)) (fD_readHead_145 37 w) := by
  have l39 : p_ald w 39 2 125 = some (g 39 125) := h.ldn 39 2 125 rfl (by omega) (by omega) (by decide) (by decide)
  have l40 : p_ald w 40 2 125 = some (g 40 125) := h.ldn 40 2 125 rfl (by omega) (by omega) (by decide) (by decide)
  unfold fD_readHead_145
  rw [h.R 4 39 rfl, Option.bind_some, l39, Option.bind_some]
  cases a
  · rw [if_pos (ha.mpr rfl), if_neg (show ¬ (false = true ∧ b = true) from fun y => by cases y.1)]
    exact (qHe.no h hz p to h39).2
  · rw [if_neg (show ¬ g 39 125 = 0 from fun y => by have := ha.mp y; cases this), h.R 5 40 rfl, Option.bind_some, l40, Option.bind_some]
    cases b
    · rw [if_neg (show ¬ ¬ g 40 125 = 0 from not_not_intro (hb.mpr rfl)), if_neg (show ¬ (true = true ∧ false = true) from fun y => by cases y.2)]
      exact (qHe.no h hz p to h39).2
    · rw [if_pos (show ¬ g 40 125 = 0 from fun y => by have := hb.mp y; cases this), if_pos (show true = true ∧ true = true from ⟨rfl, rfl⟩)]
      exact ⟨w, z, g, rfl, h, gS.rf, qI.rf, fun _ _ _ => rfl, hz, fun _ => ⟨h39, hp⟩⟩
theorem qHe.h45 (hL : qby L) (hl : L.length ≤ 20000) (to many : Nat) (hto : to ≤ L.length) (hm4 : many ≤ 4) : ∀ (f p F : Nat) (w : PW) (z : Nat → Int32) (g : Nat → Nat → Int32) (a b : Bool), qM w z g → qY g 54 L → z 41 = -1 → z 39 = Int32.ofNat p → z 40 = Int32.ofNat to → g 42 7 = Int32.ofNat many → (g 39 125 = 0 ↔ a = false) → (g 40 125 = 0 ↔ b = false) → p ≤ to → to < p + 4 * f → f < F → qHe w z g to (s_hd L to many f p a b) (fD_readHead_45 F 37 w)
  | 0, p, F, w, z, g, a, b, h, hy, hz, h39, h40, hm, ha, hb, hp, hf, _ => by omega
  | f + 1, p, F + 1, w, z, g, a, b, h, hy, hz, h39, h40, hm, ha, hb, hp, hf, hF => by
    have n1 := nb_le hL (p + 1)
    have m144 := h.mark hy hL hl p to 144 (by omega) hp hto
    have m217 := h.mark hy hL hl p to 217 (by omega) hp hto
    have d10 : ¬ (1 : Int32) = 0 := by decide
    rw [fD_readHead_45, h.I 39 rfl, Option.bind_some, h.I 40 rfl, Option.bind_some, h.obj, Option.bind_some, h39, h40, show fD_isMark 37 (Int32.ofNat p) (Int32.ofNat to) 144 w = _ from m144, q_call, q_kI, s_hd]
    by_cases k1 : p + 2 ≤ to ∧ nb L p = 255 ∧ nb L (p + 1) = 144
    · rw [if_pos k1, if_pos d10, if_pos (Or.inl k1)]
      exact qHe.h145 h hz p to h39 hp a b ha hb
    · rw [if_neg k1, if_neg (not_not_intro rfl), h.I 39 rfl, Option.bind_some, h.I 40 rfl, Option.bind_some, h.obj, Option.bind_some, h39, h40, show fD_isMark 37 (Int32.ofNat p) (Int32.ofNat to) 217 w = _ from m217, q_call, q_kI]
      by_cases k2 : p + 2 ≤ to ∧ nb L p = 255 ∧ nb L (p + 1) = 217
      · rw [if_pos k2, if_pos d10, if_pos (Or.inr k2)]
        exact qHe.h145 h hz p to h39 hp a b ha hb
      · rw [if_neg k2, if_neg (not_not_intro rfl), if_neg (fun y => y.elim k1 k2), h.I 39 rfl, Option.bind_some, h.I 40 rfl, Option.bind_some, h.obj, Option.bind_some, h39, h40, h.behind hy hL hl p to hp hto, q_call, q_kI]
        cases hs : s_seg L p to with
        | none =>
          rw [if_pos (show oN none = -1 from rfl)]
          exact (qHe.no h hz p to h39).1
        | some x =>
          have hx := s_seg_le hs
          rw [show oN (some x) = Int32.ofNat x from rfl]
          dsimp only
          rw [if_neg (oN_ne (by omega)), h.R 23 54 rfl, Option.bind_some, h.I 39 rfl, Option.bind_some, h39, show Int32.ofNat p + 1 = Int32.ofNat (p + 1) from (Int32.ofNat_add p 1).symm, h.had hy hL hl (p + 1) (by omega), Option.bind_some, q_isSeg _ n1, q_call, q_kI]
          have nx : ∀ (w0 : PW) (g0 : Nat → Nat → Int32) (a' b' : Bool), qM w0 z g0 → gS g g0 → qI 37 66 w w0 → (g0 39 125 = 0 ↔ a' = false) → (g0 40 125 = 0 ↔ b' = false) → qHe w z g to (s_hd L to many f x a' b') (fD_readHead_137 (fD_readHead_45 F) 37 (Int32.ofNat x) w0) := by
            intro w0 g0 a' b' h0 S0 F0 ha' hb'
            unfold fD_readHead_137
            obtain ⟨w1, e1, q1, F1⟩ := h0.put 39 (Int32.ofNat x) (by omega) rfl
            rw [e1, Option.bind_some]
            obtain ⟨w2, z2, g2, r1, r2, r3, r4, r5, r6, r7⟩ := qHe.h45 hL hl to many hto hm4 f x F w1 (upd z 39 (Int32.ofNat x)) g0 a' b' q1 (S0.f.y hy) (by unfold upd; rw [if_neg (by decide), hz]) (by unfold upd; rw [if_pos rfl]) (by unfold upd; rw [if_neg (by decide), h40]) (by rw [S0.1 42 (by decide) (by decide) (by decide), hm]) ha' hb' (by omega) (by omega) (by omega)
            exact ⟨w2, z2, g2, r1, r2, S0.tr r3, (F0.tr F1).tr r4, fun k j1 j2 => by rw [r5 k j1 j2]; unfold upd; rw [if_neg j1], r6, r7⟩
          by_cases k3 : nb L (p + 1) = 82 ∨ nb L (p + 1) = 83 ∨ nb L (p + 1) = 92 ∨ nb L (p + 1) = 93
          · rw [if_pos k3, if_neg d10, h.I 39 rfl, Option.bind_some, h.obj, Option.bind_some, h39]
            obtain ⟨w1, g1, v, e1, q1, S1, F1, v1, i1, t1⟩ := h.tSeg hy hL hl p 0 many (-1) (by decide) (by omega) hm hm4 (by omega) (by omega) k3
            rw [e1, q_call, q_kI]
            rw [← hx.2.2.2.2] at i1
            by_cases k4 : s_sgm L many p x
            · have hv : v = 1 := v1.resolve_left (fun y => i1.mp y k4)
              obtain ⟨t2, t3⟩ := t1 hv rfl
              rw [if_pos (show ¬ v = 0 by rw [hv]; decide), if_pos ((s_sgmB_iff _ _ _ _).mpr k4)]
              refine nx w1 g1 _ _ q1 S1 F1 ?_ ?_
              · rw [t2]
                by_cases j : nb L (p + 1) = 82
                · simp [j]
                · simp [j, ha]
              · rw [t3]
                by_cases j : nb L (p + 1) = 92
                · simp [j]
                · simp [j, hb]
            · rw [if_neg (not_not_intro (i1.mpr k4)), if_neg (fun y => k4 ((s_sgmB_iff _ _ _ _).mp y))]
              have hv : v = 0 := i1.mpr k4
              obtain ⟨w2, z2, g2, r1, r2, r3, r4, r5, r6, r7⟩ := (qHe.no q1 hz p to h39).1
              exact ⟨w2, z2, g2, r1, r2, S1.tr r3, F1.tr r4, r5, r6, r7⟩
          · have k4 : s_sgm L many p x := ⟨fun y => absurd (Or.inl y) k3, fun y => absurd (Or.inr (Or.inl y)) k3, fun y => absurd (Or.inr (Or.inr (Or.inl y))) k3, fun y => absurd (Or.inr (Or.inr (Or.inr y))) k3⟩
            rw [if_neg k3, if_pos rfl, if_pos ((s_sgmB_iff _ _ _ _).mpr k4)]
            have j1 : ¬ nb L (p + 1) = 82 := fun y => k3 (Or.inl y)
            have j2 : ¬ nb L (p + 1) = 92 := fun y => k3 (Or.inr (Or.inr (Or.inl y)))
            exact nx w g _ _ h gS.rf qI.rf (by simp [j1, ha]) (by simp [j2, hb])
/-- the head of the stream, by the reference -/
theorem qM.head (h : qM w z g) (hy : qY g 54 L) (hL : qby L) (hl : L.length ≤ 20000) (hz : z 41 = -1) (fr to : Nat) (h39 : z 39 = Int32.ofNat fr) (h40 : z 40 = Int32.ofNat to) (hp : fr ≤ to) (hto : to ≤ L.length) (h1 : g 39 125 = 0) (h2 : g 40 125 = 0) : ∃ w' z' g', fD_readHead 37 w = some (.inl (some (.int (o1 (s_head L fr to).1))), w') ∧ qM w' z' g' ∧ gF g g' ∧ qI 37 66 w w' ∧ (∀ k, k ≠ 39 → k ≠ 41 → z' k = z k) ∧ z' 41 = oN (s_head L fr to).1 ∧ ((s_head L fr to).1 = none → z' 39 = Int32.ofNat (s_head L fr to).2 ∧ (s_head L fr to).2 ≤ to ∧ s_sid L (fr + 2) ∧ (1 ≤ nb2 L (fr + 2 + 38) ∧ nb2 L (fr + 2 + 38) ≤ 4) ∧ gSz g' L (fr + 2)) := by
  have m79 := h.mark hy hL hl fr to 79 (by omega) hp hto
  have d10 : ¬ (1 : Int32) = 0 := by decide
  unfold fD_readHead
  rw [h.I 39 rfl, Option.bind_some, h.I 40 rfl, Option.bind_some, h.obj, Option.bind_some, h39, h40, show fD_isMark 37 (Int32.ofNat fr) (Int32.ofNat to) 79 w = _ from m79, q_call, q_kI, s_head_eq]
  by_cases k1 : fr + 2 ≤ to ∧ nb L fr = 255 ∧ nb L (fr + 1) = 79
  · rw [if_pos k1, if_pos d10, if_pos k1, h.I 39 rfl, Option.bind_some, h39, show Int32.ofNat fr + 2 = Int32.ofNat (fr + 2) from (Int32.ofNat_add fr 2).symm]
    obtain ⟨w1, e1, q1, F1⟩ := h.put 39 (Int32.ofNat (fr + 2)) (by omega) rfl
    have z41 : upd z 39 (Int32.ofNat (fr + 2)) 41 = -1 := by unfold upd; rw [if_neg (by decide), hz]
    have z39 : upd z 39 (Int32.ofNat (fr + 2)) 39 = Int32.ofNat (fr + 2) := by unfold upd; rw [if_pos rfl]
    have z40 : upd z 39 (Int32.ofNat (fr + 2)) 40 = Int32.ofNat to := by unfold upd; rw [if_neg (by decide), h40]
    rw [e1, Option.bind_some, q1.obj, Option.bind_some]
    obtain ⟨w2, z2, g2, v, e2, q2, S2, F2, v1, i1, t0, t1⟩ := q1.sizes z41 hy hL hl (fr + 2) to z39 z40 k1.1 hto
    rw [e2, q_call, q_kI]
    cases hs : s_szo L (fr + 2) to with
    | none =>
      have hv : v = 0 := i1.mpr (fun ⟨x, hx⟩ => by rw [hs] at hx; cases hx)
      rw [if_neg (not_not_intro hv)]
      refine ⟨w2, z2, g2, rfl, q2, S2.f, F1.tr F2, fun k j1 j2 => ?_, ?_, fun y => by cases y⟩
      · rw [t0 hv]; unfold upd; rw [if_neg j2, if_neg j1]
      · rw [t0 hv, z39]; exact if_pos rfl
    | some x =>
      have hv : v = 1 := v1.resolve_left (fun y => i1.mp y ⟨x, hs⟩)
      have hC : s_seg L (fr + 2) to = some x ∧ s_siz L (fr + 2) x := by
        unfold s_szo at hs
        by_cases k2 : fr + 2 + 2 ≤ to ∧ nb L (fr + 2) = 255 ∧ nb L (fr + 2 + 1) = 81
        · rw [if_pos k2] at hs
          cases hg : s_seg L (fr + 2) to with
          | none => rw [hg] at hs; cases hs
          | some y =>
            rw [hg] at hs
            dsimp only at hs
            by_cases k3 : s_sizB L (fr + 2) y = true
            · rw [if_pos k3] at hs
              injection hs with hs
              subst hs
              exact ⟨rfl, (s_sizB_iff _ _ _).mp k3⟩
            · rw [if_neg k3] at hs; cases hs
        · rw [if_neg k2] at hs; cases hs
      have hx := s_seg_le hC.1
      obtain ⟨t2, t3⟩ := t1 hv
      rw [if_pos (show ¬ v = 0 by rw [hv]; decide)]
      dsimp only
      have y39 : z2 39 = Int32.ofNat x := by
        rw [t2, z39]
        unfold upd
        rw [if_pos rfl, show (2 : Int32) + Int32.ofNat (nb2 L (fr + 2 + 2)) = Int32.ofNat (2 + nb2 L (fr + 2 + 2)) from (Int32.ofNat_add 2 _).symm, ← Int32.ofNat_add]
        congr 1
        omega
      have y40 : z2 40 = Int32.ofNat to := by rw [t2]; unfold upd; rw [if_neg (by decide)]; exact z40
      have y41 : z2 41 = -1 := by rw [t2]; unfold upd; rw [if_neg (by decide)]; exact z41
      obtain ⟨w3, z3, g3, r1, r2, r3, r4, r5, r6, r7⟩ := qHe.h45 hL hl to (nb2 L (fr + 2 + 38)) hto hC.2.1.2 5001 x FUEL w2 z2 g2 false false q2 (S2.f.y hy) y41 y39 y40 t3.2.2.1 (by rw [S2.1 39 (by decide) (by decide), h1]; simp) (by rw [S2.1 40 (by decide) (by decide), h2]; simp) hx.2.1 (by omega) (by decide)
      refine ⟨w3, z3, g3, r1, r2, S2.f.tr r3.f, (F1.tr F2).tr r4, fun k j1 j2 => ?_, r6, fun y => ⟨(r7 y).1, (r7 y).2, hC.2.2.2.2.1, hC.2.1, ?_⟩⟩
      · rw [r5 k j1 j2, t2]
        unfold upd
        rw [if_neg j1, if_neg j1]
      · unfold gSz
        rw [r3.1 42 (by decide) (by decide) (by decide)]
        exact t3
  · obtain ⟨w1, e1, q1, F1⟩ := h.fails hz (Int32.ofNat fr)
    rw [if_neg k1, if_neg (not_not_intro rfl), if_neg k1, h.I 39 rfl, Option.bind_some, h39, h.obj, Option.bind_some, e1, q_call, q_kI]
    refine ⟨w1, _, g, rfl, q1, gF.rf, F1, fun k j1 j2 => by unfold upd; rw [if_neg j2], if_pos rfl, fun y => by cases y⟩
end
theorem q_rem128 : ∀ v : Nat, v ≤ 255 → p_irem (Int32.ofNat v) 128 = some (Int32.ofNat (v % 128)) := by decide +kernel
/-- what reading the k-th part leaves alone in the reference's rows -/
def gP (k : Nat) (g g' : Nat → Nat → Int32) : Prop := (∀ r, 41 ≤ r → r ≤ 56 → g' r = g r) ∧ (∀ i, i < 1375 → g' 38 i = g 38 i) ∧ (∀ i, i < 125 → g' 39 i = g 39 i ∧ g' 40 i = g 40 i) ∧ (∀ r, 57 ≤ r → r ≤ 63 → ∀ j, j ≠ k → g' r j = g r j) ∧ (g01 g → g01 g')
theorem gP.rf {k : Nat} {g : Nat → Nat → Int32} : gP k g g := ⟨fun _ _ _ => rfl, fun _ _ => rfl, fun _ _ => ⟨rfl, rfl⟩, fun _ _ _ _ _ => rfl, id⟩
theorem gP.tr {k : Nat} {g g' g'' : Nat → Nat → Int32} (h : gP k g g') (l : gP k g' g'') : gP k g g'' := ⟨fun j a b => (l.1 j a b).trans (h.1 j a b), fun i hi => (l.2.1 i hi).trans (h.2.1 i hi), fun i hi => ⟨(l.2.2.1 i hi).1.trans (h.2.2.1 i hi).1, (l.2.2.1 i hi).2.trans (h.2.2.1 i hi).2⟩, fun r a b j c => (l.2.2.2.1 r a b j c).trans (h.2.2.2.1 r a b j c), fun y => l.2.2.2.2 (h.2.2.2.2 y)⟩
theorem gS.p {k : Nat} {g g' : Nat → Nat → Int32} (h : gS g g') : gP k g g' := ⟨fun r a b => h.1 r (by omega) (by omega) (by omega), h.2.1, h.2.2.1, fun r a b j _ => by rw [h.1 r (by omega) (by omega) (by omega)], h.2.2.2⟩
theorem gP.u (k : Nat) (g : Nat → Nat → Int32) (r i : Nat) (v : Int32) (h : (57 ≤ r ∧ r ≤ 63 ∧ i = k) ∨ r = 64 ∨ r = 65) : gP k g (ug g r i v) := by
  refine ⟨fun j a b => ug_ne g i v (by omega), fun j hj => by rw [ug_ne g i v (by omega)], fun j hj => ⟨by rw [ug_ne g i v (by omega)], by rw [ug_ne g i v (by omega)]⟩, fun j a b l hl => ?_, fun y j => by rw [ug_ne g i v (by omega), ug_ne g i v (by omega)]; exact y j⟩
  by_cases e : j = r
  · subst e
    rw [ug_self]
    unfold upd
    rw [if_neg (by omega)]
  · rw [ug_ne g i v e]
theorem gP.f {k : Nat} {g g' : Nat → Nat → Int32} (h : gP k g g') : gF g g' := ⟨fun r a b => h.1 r (by omega) b, h.2.1, h.2.2.1, fun i _ => by rw [h.1 41 (by omega) (by omega)], fun i _ => by rw [h.1 42 (by omega) (by omega)], h.2.2.2.2⟩
/-- the lengths kept -/
def gLn (g : Nat → Nat → Int32) (m : Nat) : Prop := m ≤ 200 ∧ ∀ i, i < m → ∃ n, n ≤ 100000 ∧ g 65 i = Int32.ofNat n
/-- fields that part reading leaves alone -/
def zP (z z' : Nat → Int32) : Prop := ∀ j, j ≠ 30 → j ≠ 39 → j ≠ 43 → z' j = z j
theorem zP.rf {z : Nat → Int32} : zP z z := fun _ _ _ _ => rfl
theorem zP.tr {z z' z'' : Nat → Int32} (h : zP z z') (k : zP z' z'') : zP z z'' := fun j a b c => (k j a b c).trans (h j a b c)
section
variable {w : PW} {z : Nat → Int32} {g : Nat → Nat → Int32} {L : List Int32}
theorem qM.tL16 (hL : qby L) (hl : L.length ≤ 20000) (k to : Nat) (hto : to ≤ L.length) : ∀ (n i acc m F : Nat) (w : PW) (z : Nat → Int32) (g : Nat → Nat → Int32), qM w z g → qY g 54 L → z 43 = Int32.ofNat m → gLn g m → acc ≤ 100000 → n < F → i + n = to → ∃ w' z' g' v m', fD_takeLengths_16 F 37 (Int32.ofNat to) (Int32.ofNat acc) (Int32.ofNat i) w = some (.inl (some (.int v)), w') ∧ qM w' z' g' ∧ (∀ r, r ≠ 65 → g' r = g r) ∧ qI 37 66 w w' ∧ (∀ j, j ≠ 43 → z' j = z j) ∧ z' 43 = Int32.ofNat m' ∧ gLn g' m'
  | 0, i, acc, m, F + 1, w, z, g, h, hy, hz, hg, ha, _, hi => by
    rw [fD_takeLengths_16, if_pos ((q_of_le (by omega) (by omega)).mpr (by omega))]
    exact ⟨w, z, g, 1, m, rfl, h, fun _ _ => rfl, qI.rf, fun _ _ => rfl, hz, hg⟩
  | n + 1, i, acc, m, F + 1, w, z, g, h, hy, hz, hg, ha, hF, hi => by
    have n0 := nb_le hL i
    have e1 : (128 : Int32) * Int32.ofNat acc + Int32.ofNat (nb L i % 128) = Int32.ofNat (128 * acc + nb L i % 128) := by
      rw [show (128 : Int32) * Int32.ofNat acc = Int32.ofNat (128 * acc) from (Int32.ofNat_mul 128 acc).symm]
      exact (Int32.ofNat_add _ _).symm
    have cL : Int32.ofNat (128 * acc + nb L i % 128) ≤ 100000 ↔ 128 * acc + nb L i % 128 ≤ 100000 := q_of_le (n := 100000) (by omega) (by omega)
    have c128 : (128 : Int32) ≤ Int32.ofNat (nb L i) ↔ 128 ≤ nb L i := q_of_le (m := 128) (by omega) (by omega)
    have hm := hg.1
    have c200 : Int32.ofNat m = 200 ↔ m = 200 := q_of32 (y := 200) (by omega) (by omega)
    rw [fD_takeLengths_16, if_neg (fun hh => by have := (q_of_le (by omega) (by omega)).mp hh; omega), h.R 23 54 rfl, Option.bind_some, h.had hy hL hl i (by omega), Option.bind_some, q_rem128 _ n0, Option.bind_some, q_let, e1]
    by_cases a1 : 128 * acc + nb L i % 128 ≤ 100000
    · rw [if_pos (cL.mpr a1), Option.bind_some, h.had hy hL hl i (by omega), Option.bind_some, show Int32.ofNat i + 1 = Int32.ofNat (i + 1) from (Int32.ofNat_add i 1).symm]
      by_cases a2 : 128 ≤ nb L i
      · rw [if_pos (c128.mpr a2), q_let]
        exact qM.tL16 hL hl k to hto n (i + 1) _ m F w z g h hy hz hg a1 (by omega) (by omega)
      · rw [if_neg (fun y => a2 (c128.mp y)), h.I 43 rfl, Option.bind_some, hz]
        by_cases a3 : m = 200
        · rw [if_neg (not_not_intro (c200.mpr a3))]
          exact ⟨w, z, g, 0, m, rfl, h, fun _ _ => rfl, qI.rf, fun _ _ => rfl, hz, hg⟩
        · obtain ⟨w1, e2, q1, F1⟩ := h.stn 65 0 m (Int32.ofNat (128 * acc + nb L i % 128)) rfl (by omega) (by omega) (by show m < 200; omega) (by decide)
          rw [if_pos (fun y => a3 (c200.mp y)), h.R 42 65 rfl, Option.bind_some, Option.bind_some, e2, Option.bind_some, q1.I 43 rfl, Option.bind_some, hz, show Int32.ofNat m + 1 = Int32.ofNat (m + 1) from (Int32.ofNat_add m 1).symm]
          obtain ⟨w2, e3, q2, F2⟩ := q1.put 43 (Int32.ofNat (m + 1)) (by omega) rfl
          rw [e3, Option.bind_some, q_let]
          obtain ⟨w3, z3, g3, v, m3, r1, r2, r3, r4, r5, r6, r7⟩ := qM.tL16 hL hl k to hto n (i + 1) 0 (m + 1) F w2 _ _ q2 (fun j hj => by rw [ug_ne _ _ _ (by decide)]; exact hy j hj) (if_pos rfl) ⟨by omega, fun j hj => by
            rw [ug_self]
            unfold upd
            by_cases e : j = m
            · rw [if_pos e]
              exact ⟨_, a1, rfl⟩
            · rw [if_neg e]
              exact hg.2 j (by omega)⟩ (by omega) (by omega) (by omega)
          exact ⟨w3, z3, g3, v, m3, r1, r2, fun r hr => by rw [r3 r hr, ug_ne _ _ _ hr], (F1.tr F2).tr r4, fun j hj => by rw [r5 j hj]; unfold upd; rw [if_neg hj], r6, r7⟩
    · rw [if_neg (fun y => a1 (cL.mp y))]
      exact ⟨w, z, g, 0, m, rfl, h, fun _ _ => rfl, qI.rf, fun _ _ => rfl, hz, hg⟩
theorem qM.tLen (h : qM w z g) (hy : qY g 54 L) (hL : qby L) (hl : L.length ≤ 20000) {m : Nat} (hz : z 43 = Int32.ofNat m) (hg : gLn g m) (p x : Nat) (hp : p ≤ x) (hx : x ≤ L.length) : ∃ w' z' g' v m', fD_takeLengths 37 (Int32.ofNat p) (Int32.ofNat x) w = some (.inl (some (.int v)), w') ∧ qM w' z' g' ∧ (∀ r, r ≠ 65 → g' r = g r) ∧ qI 37 66 w w' ∧ (∀ j, j ≠ 43 → z' j = z j) ∧ z' 43 = Int32.ofNat m' ∧ gLn g' m' := by
  have c5 : (5 : Int32) ≤ Int32.ofNat (x - p) ↔ 5 ≤ x - p := q_of_le (m := 5) (by omega) (by omega)
  unfold fD_takeLengths
  rw [q_subn hp (by omega)]
  by_cases a : 5 ≤ x - p
  · rw [if_pos (c5.mpr a), q_let, show Int32.ofNat p + 5 = Int32.ofNat (p + 5) from (Int32.ofNat_add p 5).symm]
    exact qM.tL16 hL hl 0 x hx (x - (p + 5)) (p + 5) 0 m FUEL w z g h hy hz hg (by omega) (by show _ < 1000000; omega) (by omega)
  · rw [if_neg (fun y => a (c5.mp y))]
    exact ⟨w, z, g, 0, m, rfl, h, fun _ _ => rfl, qI.rf, fun _ _ => rfl, hz, hg⟩
theorem qM.hO8 (hL : qby L) (hl : L.length ≤ 20000) (k to many t : Nat) (hto : to ≤ L.length) (hm4 : many ≤ 4) (ht : t < 24) (fi : Int32) : ∀ (f p F m : Nat) (w : PW) (z : Nat → Int32) (g : Nat → Nat → Int32), qM w z g → qY g 54 L → g 42 7 = Int32.ofNat many → z 43 = Int32.ofNat m → gLn g m → p ≤ to → to < p + 4 * f → f < F → ∃ w' z' g' o m', fD_headOf_8 F 37 (Int32.ofNat to) (Int32.ofNat t) fi (Int32.ofNat p) w = some (.inl (some (.int (oN o))), w') ∧ (∀ x, o = some x → x ≤ to) ∧ qM w' z' g' ∧ gP k g g' ∧ (∀ r, 57 ≤ r → r ≤ 64 → g' r = g r) ∧ qI 37 66 w w' ∧ (∀ j, j ≠ 43 → z' j = z j) ∧ z' 43 = Int32.ofNat m' ∧ gLn g' m'
  | 0, p, F, m, w, z, g, h, hy, hm, hz, hg, hp, hf, _ => by omega
  | f + 1, p, F + 1, m, w, z, g, h, hy, hm, hz, hg, hp, hf, hF => by
    have n1 := nb_le hL (p + 1)
    have m147 := h.mark hy hL hl p to 147 (by omega) hp hto
    have d10 : ¬ (1 : Int32) = 0 := by decide
    have no : ∀ (w0 : PW) (g0 : Nat → Nat → Int32), qM w0 z g0 → gS g g0 → qI 37 66 w w0 → ∃ w' z' g' o m', (some (.inl (some (.int (-1))), w0) : PX) = some (.inl (some (.int (oN o))), w') ∧ (∀ x, o = some x → x ≤ to) ∧ qM w' z' g' ∧ gP k g g' ∧ (∀ r, 57 ≤ r → r ≤ 64 → g' r = g r) ∧ qI 37 66 w w' ∧ (∀ j, j ≠ 43 → z' j = z j) ∧ z' 43 = Int32.ofNat m' ∧ gLn g' m' := fun w0 g0 q0 S0 F0 => ⟨w0, z, g0, none, m, rfl, (fun x hx => by cases hx), q0, S0.p, fun r a b => S0.1 r (by omega) (by omega) (by omega), F0, fun _ _ => rfl, hz, ⟨hg.1, fun i hi => by rw [S0.1 65 (by decide) (by decide) (by decide)]; exact hg.2 i hi⟩⟩
    rw [fD_headOf_8, h.obj, Option.bind_some, show fD_isMark 37 (Int32.ofNat p) (Int32.ofNat to) 147 w = _ from m147, q_call, q_kI]
    by_cases k1 : p + 2 ≤ to ∧ nb L p = 255 ∧ nb L (p + 1) = 147
    · rw [if_pos k1, if_pos d10, show Int32.ofNat p + 2 = Int32.ofNat (p + 2) from (Int32.ofNat_add p 2).symm]
      exact ⟨w, z, g, some (p + 2), m, rfl, fun x hx => by injection hx with hx; omega, h, gP.rf, fun _ _ _ => rfl, qI.rf, fun _ _ => rfl, hz, hg⟩
    · rw [if_neg k1, if_neg (not_not_intro rfl), h.obj, Option.bind_some, h.behind hy hL hl p to hp hto, q_call, q_kI]
      cases hs : s_seg L p to with
      | none =>
        rw [if_neg (not_not_intro (show oN none = -1 from rfl))]
        exact no w g h gS.rf qI.rf
      | some x =>
        have hx := s_seg_le hs
        rw [show oN (some x) = Int32.ofNat x from rfl]
        rw [if_pos (oN_ne (by omega)), h.R 23 54 rfl, Option.bind_some, show Int32.ofNat p + 1 = Int32.ofNat (p + 1) from (Int32.ofNat_add p 1).symm, h.had hy hL hl (p + 1) (by omega), Option.bind_some, q_isSeg _ n1, q_call, q_kI]
        have nx : ∀ (w0 : PW) (g0 : Nat → Nat → Int32), qM w0 z g0 → gS g g0 → qI 37 66 w w0 → ∃ w' z' g' o m', fD_headOf_72 (fD_headOf_8 F) 37 (Int32.ofNat to) (Int32.ofNat t) fi (Int32.ofNat p) (Int32.ofNat x) w0 = some (.inl (some (.int (oN o))), w') ∧ (∀ x, o = some x → x ≤ to) ∧ qM w' z' g' ∧ gP k g g' ∧ (∀ r, 57 ≤ r → r ≤ 64 → g' r = g r) ∧ qI 37 66 w w' ∧ (∀ j, j ≠ 43 → z' j = z j) ∧ z' 43 = Int32.ofNat m' ∧ gLn g' m' := by
          intro w0 g0 q0 S0 F0
          have hy0 := S0.f.y hy
          have hg0 : gLn g0 m := ⟨hg.1, fun i hi => by rw [S0.1 65 (by decide) (by decide) (by decide)]; exact hg.2 i hi⟩
          have hm0 : g0 42 7 = Int32.ofNat many := by rw [S0.1 42 (by decide) (by decide) (by decide), hm]
          have c88 : Int32.ofNat (nb L (p + 1)) = 88 ↔ nb L (p + 1) = 88 := q_of32 (y := 88) (by omega) (by omega)
          unfold fD_headOf_72
          rw [q0.R 23 54 rfl, Option.bind_some, show Int32.ofNat p + 1 = Int32.ofNat (p + 1) from (Int32.ofNat_add p 1).symm, q0.had hy0 hL hl (p + 1) (by omega), Option.bind_some]
          by_cases k2 : nb L (p + 1) = 88
          · rw [if_neg (not_not_intro (c88.mpr k2)), q0.obj, Option.bind_some]
            obtain ⟨w1, z1, g1, v, m1, r1, r2, r3, r4, r5, r6, r7⟩ := q0.tLen hy0 hL hl hz hg0 p x (by omega) (by omega)
            rw [r1, q_call, q_kI]
            have P1 : gP k g0 g1 := ⟨fun r a b => r3 r (by omega), fun i _ => by rw [r3 38 (by decide)], fun i _ => ⟨by rw [r3 39 (by decide)], by rw [r3 40 (by decide)]⟩, fun r a b j _ => by rw [r3 r (by omega)], fun y j => by rw [r3 39 (by decide), r3 40 (by decide)]; exact y j⟩
            by_cases hv : v = 0
            · rw [if_neg (not_not_intro hv)]
              exact ⟨w1, z1, g1, none, m1, rfl, (fun x hx => by cases hx), r2, S0.p.tr P1, fun r a b => by rw [r3 r (by omega), S0.1 r (by omega) (by omega) (by omega)], F0.tr r4, r5, r6, r7⟩
            · rw [if_pos hv]
              obtain ⟨w2, z2, g2, o, m2, t1, t2, t3, t4, t5, t6, t7, t8, t9⟩ := qM.hO8 hL hl k to many t hto hm4 ht fi f x F m1 w1 z1 g1 r2 (fun i hi => by rw [r3 54 (by decide)]; exact hy0 i hi) (by rw [r3 42 (by decide), hm0]) r6 r7 hx.2.1 (by omega) (by omega)
              exact ⟨w2, z2, g2, o, m2, t1, t2, t3, (S0.p.tr P1).tr t4, fun r a b => by rw [t5 r a b, r3 r (by omega), S0.1 r (by omega) (by omega) (by omega)], (F0.tr r4).tr t6, fun j hj => by rw [t7 j hj, r5 j hj], t8, t9⟩
          · rw [if_pos (fun y => k2 (c88.mp y))]
            obtain ⟨w2, z2, g2, o, m2, t1, t2, t3, t4, t5, t6, t7, t8, t9⟩ := qM.hO8 hL hl k to many t hto hm4 ht fi f x F m w0 z g0 q0 hy0 hm0 hz hg0 hx.2.1 (by omega) (by omega)
            exact ⟨w2, z2, g2, o, m2, t1, t2, t3, S0.p.tr t4, fun r a b => by rw [t5 r a b, S0.1 r (by omega) (by omega) (by omega)], F0.tr t6, t7, t8, t9⟩
        by_cases k3 : nb L (p + 1) = 82 ∨ nb L (p + 1) = 83 ∨ nb L (p + 1) = 92 ∨ nb L (p + 1) = 93
        · rw [if_pos k3, if_neg d10]
          by_cases k4 : fi = 0
          · rw [if_pos k4]
            exact no w g h gS.rf qI.rf
          · obtain ⟨w1, g1, v, e1, q1, S1, F1, v1, i1, t1⟩ := h.tSeg hy hL hl p (t + 1) many (Int32.ofNat t) ((Int32.ofNat_add t 1).symm) (by omega) hm hm4 (by omega) (by omega) k3
            rw [if_neg k4, h.obj, Option.bind_some, e1, q_call, q_kI]
            by_cases hv : v = 0
            · rw [if_pos hv]
              exact no w1 g1 q1 S1 F1
            · rw [if_neg hv]
              exact nx w1 g1 q1 S1 F1
        · rw [if_neg k3, if_pos rfl]
          exact nx w g h gS.rf qI.rf
theorem qM.headOf (h : qM w z g) (hy : qY g 54 L) (hL : qby L) (hl : L.length ≤ 20000) (k to many t p : Nat) (hto : to ≤ L.length) (hm4 : many ≤ 4) (ht : t < 24) (fi : Int32) (hm : g 42 7 = Int32.ofNat many) (hp : p ≤ to) : ∃ w' z' g' o m', fD_headOf 37 (Int32.ofNat p) (Int32.ofNat to) (Int32.ofNat t) fi w = some (.inl (some (.int (oN o))), w') ∧ (∀ x, o = some x → x ≤ to) ∧ qM w' z' g' ∧ gP k g g' ∧ (∀ r, 57 ≤ r → r ≤ 64 → g' r = g r) ∧ qI 37 66 w w' ∧ (∀ j, j ≠ 43 → z' j = z j) ∧ z' 43 = Int32.ofNat m' ∧ gLn g' m' := by
  unfold fD_headOf
  obtain ⟨w1, e1, q1, F1⟩ := h.put 43 0 (by omega) rfl
  rw [e1, Option.bind_some]
  obtain ⟨w2, z2, g2, o, m2, t1, t2, t3, t4, t5, t6, t7, t8, t9⟩ := qM.hO8 hL hl k to many t hto hm4 ht fi 5001 p FUEL 0 w1 _ g q1 hy hm (if_pos rfl) ⟨by omega, fun i hi => by omega⟩ hp (by omega) (by decide)
  exact ⟨w2, z2, g2, o, m2, t1, t2, t3, t4, t5, F1.tr t6, fun j hj => by rw [t7 j hj]; unfold upd; rw [if_neg hj], t8, t9⟩
end
/-- the sizes read are within their bounds -/
def gTl (g : Nat → Nat → Int32) : Prop := (1 ≤ (g 42 5).toInt ∧ (g 42 5).toInt ≤ 2000) ∧ (1 ≤ (g 42 6).toInt ∧ (g 42 6).toInt ≤ 2000) ∧ (1 ≤ (g 42 7).toInt ∧ (g 42 7).toInt ≤ 4) ∧ (1 ≤ (g 42 8).toInt ∧ (g 42 8).toInt ≤ 65536) ∧ (1 ≤ (g 42 9).toInt ∧ (g 42 9).toInt ≤ 65536) ∧ q_mi (g 42 5).toInt (g 42 8).toInt * q_mi (g 42 6).toInt (g 42 9).toInt ≤ 24
theorem gTl.of {g : Nat → Nat → Int32} {L : List Int32} {p : Nat} (h : gSz g L p) (k : s_sid L p) (m : 1 ≤ nb2 L (p + 38) ∧ nb2 L (p + 38) ≤ 4) : gTl g := by
  obtain ⟨h1, h2, h3, h4, h5⟩ := h
  obtain ⟨k1, k2, k3, k4, k5⟩ := k
  unfold gTl
  rw [h1, h2, h3, h4, h5, q_ofi (by omega), q_ofi (by omega), q_ofi (by omega), q_ofi (by omega), q_ofi (by omega)]
  exact ⟨by omega, by omega, by omega, by omega, by omega, k5⟩
/-- what is known of the part k that was read -/
def gK (g : Nat → Nat → Int32) (k : Nat) : Prop := ∃ b : Nat, g 60 k = Int32.ofNat b ∧ b ≤ 20000 ∧ (b = 0 ∨ ∃ a : Nat, g 59 k = Int32.ofNat a ∧ a + b ≤ 20000)
section
variable {w : PW} {z : Nat → Int32} {g : Nat → Nat → Int32} {L : List Int32}
theorem qM.tiles5 (h : qM w z g) (k : gTl g) : ∃ v : Int32, fD_tiles 37 5 w = some (.inl (some (.int v)), w) ∧ 1 ≤ v.toInt ∧ v.toInt ≤ 24 := by
  obtain ⟨b0, b1, b2, b3, b4, ht⟩ := k
  unfold fD_tiles
  have ld : ∀ i : Nat, i < 10 → p_ald w 42 0 (Int32.ofNat i) = some (g 42 i) := fun i hi => h.ldn 42 0 i rfl (by omega) (by omega) (by show i < 10; omega) (by decide)
  have r7 : p_getR w 37 10 7 = some 42 := h.R 7 42 rfl
  have l0 : p_ald w 42 0 5 = some (g 42 5) := ld 5 (by omega)
  have l1 : p_ald w 42 0 (5 + 1) = some (g 42 6) := ld 6 (by omega)
  have l3 : p_ald w 42 0 (5 + 3) = some (g 42 8) := ld 8 (by omega)
  have l4 : p_ald w 42 0 (5 + 4) = some (g 42 9) := ld 9 (by omega)
  simp only [r7, Option.bind_some, l0, l1, l3, l4]
  obtain ⟨v, g1, v1⟩ := q_tilesOf (a := Int32.toInt64 (g 42 5)) (b := Int32.toInt64 (g 42 6)) (c := Int32.toInt64 (g 42 8)) (d := Int32.toInt64 (g 42 9)) (by rw [q_64]; omega) (by rw [q_64]; omega) (by rw [q_64]; omega) (by rw [q_64]; omega) (by rw [q_64]; omega) (by rw [q_64]; omega) (by rw [q_64]; omega) (by rw [q_64]; omega) w
  rw [g1, q_call, q_kJ]
  rw [q_64, q_64, q_64, q_64] at v1
  have h1 := q_mi_b b0.1 b3.1
  have h2 := q_mi_b b1.1 b4.1
  have h3 := q_prod h1.1 h2.1 ht
  refine ⟨Int64.toInt32 v, rfl, ?_, ?_⟩
  · rw [q_to32 (by omega) (by omega)]; omega
  · rw [q_to32 (by omega) (by omega)]; omega
theorem qM.forg (t : Nat) (ht : t < 24) (k : Nat) : ∀ (n c F : Nat) (w : PW) (g : Nat → Nat → Int32), qM w z g → n < F → c + n = 5 → ∃ w' g', fD_forget_2 F 37 (Int32.ofNat t) (Int32.ofNat c - 1) w = some (.inl none, w') ∧ qM w' z g' ∧ gP k g g' ∧ (∀ r, 57 ≤ r → r ≤ 65 → g' r = g r) ∧ qI 37 66 w w'
  | 0, c, F + 1, w, g, h, _, hc => by
    have : c = 5 := by omega
    subst this
    rw [fD_forget_2, if_pos (by decide)]
    exact ⟨w, g, rfl, h, gP.rf, fun _ _ _ => rfl, qI.rf⟩
  | n + 1, c, F + 1, w, g, h, hF, hc => by
    have e4 : ¬ (4 : Int32) ≤ Int32.ofNat c - 1 := by
      have : c = 0 ∨ c = 1 ∨ c = 2 ∨ c = 3 ∨ c = 4 := by omega
      rcases this with e | e | e | e | e <;> subst e <;> decide
    have ep : (125 : Int32) + q_pl (Int32.ofNat t) (Int32.ofNat c - 1) = Int32.ofNat (125 + 5 * (t + 1) + c) := by
      unfold q_pl
      rw [show Int32.ofNat t + 1 = Int32.ofNat (t + 1) from (Int32.ofNat_add t 1).symm, show (5 : Int32) * Int32.ofNat (t + 1) = Int32.ofNat (5 * (t + 1)) from (Int32.ofNat_mul 5 _).symm, show Int32.ofNat (5 * (t + 1)) + (Int32.ofNat c - 1) + 1 = Int32.ofNat (5 * (t + 1)) + Int32.ofNat c by grind, ← Int32.ofNat_add, show (125 : Int32) + Int32.ofNat (5 * (t + 1) + c) = Int32.ofNat (125 + (5 * (t + 1) + c)) from (Int32.ofNat_add 125 _).symm]
      congr 1
      omega
    obtain ⟨w1, e1, q1, F1⟩ := h.stn 39 2 (125 + 5 * (t + 1) + c) 0 rfl (by omega) (by omega) (by show _ < 250; omega) (by decide)
    obtain ⟨w2, e2, q2, F2⟩ := q1.stn 40 2 (125 + 5 * (t + 1) + c) 0 rfl (by omega) (by omega) (by show _ < 250; omega) (by decide)
    rw [fD_forget_2, if_neg e4, h.R 4 39 rfl, Option.bind_some, q_placeOf, q_call, q_kI, ep, q_nar0, e1, Option.bind_some, q1.R 5 40 rfl, Option.bind_some, q_placeOf, q_call, q_kI, ep, e2, Option.bind_some, q_let, show Int32.ofNat c - 1 + 1 = Int32.ofNat (c + 1) - 1 by rw [Int32.ofNat_add]; show _ = Int32.ofNat c + 1 - 1; grind]
    obtain ⟨w3, g3, r1, r2, r3, r4, r5⟩ := qM.forg t ht k n (c + 1) F w2 _ q2 (by omega) (by omega)
    have S := (gS.u39 g 39 (125 + 5 * (t + 1) + c) 0 (Or.inl rfl) (by omega) (Or.inl rfl)).tr (gS.u39 _ 40 (125 + 5 * (t + 1) + c) 0 (Or.inr rfl) (by omega) (Or.inl rfl))
    exact ⟨w3, g3, r1, r2, S.p.tr r3, fun r a b => by rw [r4 r a b, S.1 r (by omega) (by omega) (by omega)], (F1.tr F2).tr r5⟩
theorem qM.p117 (h : qM w z g) (k x u : Nat) (hk : k < 300) (wh : Int32) (hu : x + u ≤ 20000) : ∃ w' g', fD_takePackets_117 37 (Int32.ofNat k) (Int32.ofNat x) wh (Int64.ofNat u) w = some (.inl none, w') ∧ qM w' z g' ∧ gP k g g' ∧ (∀ r, 64 ≤ r → g' r = g r) ∧ qI 37 66 w w' ∧ gK g' k := by
  unfold fD_takePackets_117
  obtain ⟨w1, e1, q1, F1⟩ := h.stn 59 0 k (Int32.ofNat x) rfl (by omega) (by omega) (by show _ < 300; omega) (by decide)
  rw [h.R 33 59 rfl, Option.bind_some, e1, Option.bind_some, q1.R 34 60 rfl, Option.bind_some, q_32n]
  obtain ⟨w2, e2, q2, F2⟩ := q1.stn 60 0 k (Int32.ofNat u) rfl (by omega) (by omega) (by show _ < 300; omega) (by decide)
  rw [e2, Option.bind_some, q2.R 35 61 rfl, Option.bind_some]
  obtain ⟨w3, e3, q3, F3⟩ := q2.stn 61 0 k wh rfl (by omega) (by omega) (by show _ < 300; omega) (by decide)
  rw [e3, Option.bind_some]
  refine ⟨w3, _, rfl, q3, ((gP.u k g 59 k _ (by omega)).tr (gP.u k _ 60 k _ (by omega))).tr (gP.u k _ 61 k _ (by omega)), fun r hr => by rw [ug_ne _ _ _ (by omega), ug_ne _ _ _ (by omega), ug_ne _ _ _ (by omega)], (F1.tr F2).tr F3, u, ?_, by omega, Or.inr ⟨x, ?_, hu⟩⟩
  · rw [ug_ne _ _ _ (by decide), ug_self]
    exact if_pos rfl
  · rw [ug_ne _ _ _ (by decide), ug_ne _ _ _ (by decide), ug_self]
    exact if_pos rfl
theorem qM.p12 (k x to : Nat) (hk : k < 300) (hx : x ≤ to) (hto : to ≤ 20000) (cu : Int32) (m : Nat) (hz : z 43 = Int32.ofNat m) (hg : gLn g m) (h : qM w z g) (hK : gK g k) : ∀ (n i F s u : Nat) (wh : Int32), n < F → i + n = m → s ≤ 100000 * i → x + u ≤ to → ∃ w' g', fD_takePackets_12 F 37 (Int32.ofNat k) (Int32.ofNat x) (Int32.ofNat to) cu (Int64.ofNat s) wh (Int64.ofNat u) (Int32.ofNat i) w = some (.inl none, w') ∧ qM w' z g' ∧ gP k g g' ∧ (∀ r, 64 ≤ r → g' r = g r) ∧ qI 37 66 w w' ∧ gK g' k
  | 0, i, F + 1, s, u, wh, _, hi, hs, hu => by
    have hm := hg.1
    rw [fD_takePackets_12, h.I 43 rfl, Option.bind_some, hz, if_pos ((q_of_le (by omega) (by omega)).mpr (by omega))]
    have p117 := h.p117 k x u hk wh (by omega)
    by_cases a : cu = 0
    · rw [if_neg (not_not_intro a)]
      by_cases b : lg_cmp (Int64.ofNat s) (Int32.toInt64 (Int32.ofNat to - Int32.ofNat x)) = 0
      · rw [if_pos b]
        exact p117
      · obtain ⟨w1, e1, q1, F1⟩ := h.stn 62 2 k 1 rfl (by omega) (by omega) (by show _ < 300; omega) (by decide)
        rw [if_neg b, h.R 36 62 rfl, Option.bind_some, q_nar1, e1, Option.bind_some]
        refine ⟨w1, _, rfl, q1, gP.u k g 62 k 1 (by omega), fun r hr => ug_ne _ _ _ (by omega), F1, ?_⟩
        unfold gK
        rw [ug_ne _ _ _ (by decide), ug_ne _ _ _ (by decide)]
        exact hK
    · rw [if_pos a]
      exact p117
  | n + 1, i, F + 1, s, u, wh, hF, hi, hs, hu => by
    have hm := hg.1
    obtain ⟨l, hl, el⟩ := hg.2 i (by omega)
    have ld : p_ald w 65 0 (Int32.ofNat i) = some (Int32.ofNat l) := by rw [← el]; exact h.ldn 65 0 i rfl (by omega) (by omega) (by show i < 200; omega) (by decide)
    have es : Int64.ofNat s + Int32.toInt64 (Int32.ofNat l) = Int64.ofNat (s + l) := by
      rw [q_64n l (by omega)]
      exact (Int64.ofNat_add _ _).symm
    have ex : Int32.toInt64 (Int32.ofNat x) + Int64.ofNat (s + l) = Int64.ofNat (x + (s + l)) := by
      rw [q_64n x (by omega)]
      exact (Int64.ofNat_add _ _).symm
    have cg : 0 < lg_cmp (Int64.ofNat (x + (s + l))) (Int64.ofNat to) ↔ to < x + (s + l) := q_c64g (by omega) (by omega)
    rw [fD_takePackets_12, h.I 43 rfl, Option.bind_some, hz, if_neg (fun hh => by have := (q_of_le (by omega) (by omega)).mp hh; omega), h.R 42 65 rfl, Option.bind_some, ld, Option.bind_some, q_let, es, ex, q_64n to (by omega)]
    have no : ∃ w' g', fD_takePackets_57 (fD_takePackets_12 F) 37 (Int32.ofNat k) (Int32.ofNat x) (Int32.ofNat to) cu (Int64.ofNat (s + l)) wh (Int64.ofNat u) (Int32.ofNat i) 0 w = some (.inl none, w') ∧ qM w' z g' ∧ gP k g g' ∧ (∀ r, 64 ≤ r → g' r = g r) ∧ qI 37 66 w w' ∧ gK g' k := by
      unfold fD_takePackets_57 fD_takePackets_71
      rw [if_pos rfl, q_let, if_pos rfl, q_let, show Int32.ofNat i + 1 = Int32.ofNat (i + 1) from (Int32.ofNat_add i 1).symm]
      exact qM.p12 k x to hk hx hto cu m hz hg h hK n (i + 1) F (s + l) u _ (by omega) (by omega) (by omega) hu
    by_cases a : wh = Int32.ofNat i
    · rw [if_neg (not_not_intro a)]
      by_cases b : to < x + (s + l)
      · rw [if_pos (cg.mpr b)]
        exact no
      · rw [if_neg (fun y => b (cg.mp y))]
        unfold fD_takePackets_57 fD_takePackets_71
        rw [if_neg (show ¬ (1 : Int32) = 0 by decide), q_let, if_neg (show ¬ (1 : Int32) = 0 by decide), q_let, show Int32.ofNat i + 1 = Int32.ofNat (i + 1) from (Int32.ofNat_add i 1).symm]
        exact qM.p12 k x to hk hx hto cu m hz hg h hK n (i + 1) F (s + l) (s + l) _ (by omega) (by omega) (by omega) (by omega)
    · rw [if_pos a]
      exact no
end
/-- a part was read -/
def qPt (w : PW) (z : Nat → Int32) (g : Nat → Nat → Int32) (k nx : Nat) (r : PX) : Prop := ∃ w' z' g', r = some (.inl (some (.int 1)), w') ∧ qM w' z' g' ∧ gP k g g' ∧ qI 37 66 w w' ∧ zP z z' ∧ z' 30 = Int32.ofNat (k + 1) ∧ z' 39 = Int32.ofNat nx ∧ gK g' k
section
variable {w : PW} {z : Nat → Int32} {g : Nat → Nat → Int32} {L : List Int32}
theorem qPt.pre {w0 : PW} {z0 : Nat → Int32} {g0 : Nat → Nat → Int32} {k nx : Nat} {r : PX} (h : qPt w z g k nx r) (F : qI 37 66 w0 w) (S : gP k g0 g) (Z : zP z0 z) : qPt w0 z0 g0 k nx r := by
  obtain ⟨w', z', g', h1, h2, h3, h4, h5, h6, h7, h8⟩ := h
  exact ⟨w', z', g', h1, h2, S.tr h3, F.tr h4, Z.tr h5, h6, h7, h8⟩
theorem qPt.r381 (h : qM w z g) {k nx : Nat} (hk : k < 300) (h30 : z 30 = Int32.ofNat k) (hK : gK g k) (v : Int32) : qPt w z g k nx (fD_readPart_381 37 (Int32.ofNat nx) v (Int32.ofNat k) 57 w) := by
  unfold fD_readPart_381
  obtain ⟨w1, e1, q1, F1⟩ := h.stn 57 0 k v rfl (by omega) (by omega) (by show _ < 300; omega) (by decide)
  rw [e1, Option.bind_some, q1.I 30 rfl, Option.bind_some, h30, show Int32.ofNat k + 1 = Int32.ofNat (k + 1) from (Int32.ofNat_add k 1).symm]
  obtain ⟨w2, e2, q2, F2⟩ := q1.put 30 (Int32.ofNat (k + 1)) (by omega) rfl
  rw [e2, Option.bind_some]
  obtain ⟨w3, e3, q3, F3⟩ := q2.put 39 (Int32.ofNat nx) (by omega) rfl
  rw [e3, Option.bind_some]
  refine ⟨w3, _, _, rfl, q3, gP.u k g 57 k v (by omega), (F1.tr F2).tr F3, fun j a b c => ?_, ?_, if_pos rfl, ?_⟩
  · unfold upd
    rw [if_neg b, if_neg a]
  · unfold upd
    rw [if_neg (by decide), if_pos rfl]
  · unfold gK
    rw [ug_ne _ _ _ (by decide), ug_ne _ _ _ (by decide)]
    exact hK
theorem qPt.r361 (h : qM w z g) {k nx : Nat} (hk : k < 300) (h30 : z 30 = Int32.ofNat k) (hK : gK g k) (t : Int32) : qPt w z g k nx (fD_readPart_361 37 (Int32.ofNat k) (Int32.ofNat nx) t w) := by
  unfold fD_readPart_361
  rw [h.R 31 57 rfl, Option.bind_some, h.R 36 62 rfl, Option.bind_some, h.ldn 62 2 k rfl (by omega) (by omega) (by show k < 300; omega) (by decide), Option.bind_some]
  by_cases a : g 62 k = 0
  · rw [if_pos a]
    exact qPt.r381 h hk h30 hK t
  · rw [if_neg a]
    exact qPt.r381 h hk h30 hK _
theorem qPt.r337 (h : qM w z g) {k nx t : Nat} (hk : k < 300) (h30 : z 30 = Int32.ofNat k) (hK : gK g k) (ht : t < 24) : qPt w z g k nx (fD_readPart_337 37 (Int32.ofNat k) (Int32.ofNat nx) (Int32.ofNat t) w) := by
  unfold fD_readPart_337
  have go : ∀ v : Int32, qPt w z g k nx ((p_ast w 64 0 (Int32.ofNat t) v).bind fun w360 => fD_readPart_361 37 (Int32.ofNat k) (Int32.ofNat nx) (Int32.ofNat t) w360) := by
    intro v
    obtain ⟨w1, e1, q1, F1⟩ := h.stn 64 0 t v rfl (by omega) (by omega) (by show _ < 24; omega) (by decide)
    rw [e1, Option.bind_some]
    refine (qPt.r361 q1 hk h30 ?_ _).pre F1 (gP.u k g 64 t v (by omega)) zP.rf
    unfold gK
    rw [ug_ne _ _ _ (by decide), ug_ne _ _ _ (by decide)]
    exact hK
  rw [h.R 38 64 rfl, Option.bind_some, h.ldn 64 0 t rfl (by omega) (by omega) (by show t < 24; omega) (by decide), Option.bind_some, h.R 36 62 rfl, Option.bind_some, h.ldn 62 2 k rfl (by omega) (by omega) (by show k < 300; omega) (by decide), Option.bind_some]
  by_cases a : g 62 k = 0
  · rw [if_pos a]
    exact go _
  · rw [if_neg a]
    exact go _
theorem qPt.r317 (h : qM w z g) {k nx t : Nat} (hk : k < 300) (h30 : z 30 = Int32.ofNat k) (hK : gK g k) (ht : t < 24) (nu : Int32) : qPt w z g k nx (fD_readPart_317 37 (Int32.ofNat k) (Int32.ofNat nx) (Int32.ofNat t) nu w) := by
  unfold fD_readPart_317
  rw [h.R 36 62 rfl, Option.bind_some, h.ldn 62 2 k rfl (by omega) (by omega) (by show k < 300; omega) (by decide), Option.bind_some]
  by_cases a : g 62 k = 0
  · rw [if_pos a]
    exact qPt.r337 h hk h30 hK ht
  · rw [if_neg a]
    by_cases b : nu = 0
    · rw [if_neg (not_not_intro b), h.obj, Option.bind_some]
      unfold fD_forget
      obtain ⟨w1, g1, r1, r2, r3, r4, r5⟩ := qM.forg (z := z) t ht k 5 0 FUEL w g h (by decide) (by omega)
      rw [show fD_forget_2 FUEL 37 (Int32.ofNat t) (-1) w = _ from r1, q_call, q_kV]
      refine (qPt.r337 r2 hk h30 ?_ ht).pre r5 r3 zP.rf
      unfold gK
      rw [r4 60 (by omega) (by omega), r4 59 (by omega) (by omega)]
      exact hK
    · rw [if_pos b]
      exact qPt.r337 h hk h30 hK ht
theorem qPt.r285 (h : qM w z g) (hy : qY g 54 L) (hL : qby L) (hl : L.length ≤ 20000) {k nx t p many : Nat} (hk : k < 300) (h30 : z 30 = Int32.ofNat k) (hK : gK g k) (ht : t < 24) (hm : g 42 7 = Int32.ofNat many) (hm4 : many ≤ 4) (hp : p ≤ nx) (hnx : nx ≤ L.length) (cu nu fi : Int32) : qPt w z g k nx (fD_readPart_285 37 (Int32.ofNat k) cu (Int32.ofNat nx) (Int32.ofNat t) nu fi (Int32.ofNat t) (Int32.ofNat nx) (Int32.ofNat p) 37 w) := by
  unfold fD_readPart_285
  obtain ⟨w1, z1, g1, o, m, r1, r2, r3, r4, r5, r6, r7, r8, r9⟩ := h.headOf hy hL hl k nx many t p hnx hm4 ht fi hm hp
  rw [h.obj, Option.bind_some, r1, q_call, q_kI]
  have hK1 : gK g1 k := by
    unfold gK
    rw [r5 60 (by omega) (by omega), r5 59 (by omega) (by omega)]
    exact hK
  have h31 : z1 30 = Int32.ofNat k := by rw [r7 30 (by decide), h30]
  have Z1 : zP z z1 := fun j a b c => r7 j c
  cases o with
  | none =>
    obtain ⟨w2, e2, q2, F2⟩ := r3.stn 62 2 k 1 rfl (by omega) (by omega) (by show _ < 300; omega) (by decide)
    rw [if_neg (not_not_intro (show oN none = -1 from rfl)), r3.R 36 62 rfl, Option.bind_some, q_nar1, e2, Option.bind_some]
    refine (qPt.r317 q2 hk h31 ?_ ht nu).pre (r6.tr F2) (r4.tr (gP.u k g1 62 k 1 (by omega))) Z1
    unfold gK
    rw [ug_ne _ _ _ (by decide), ug_ne _ _ _ (by decide)]
    exact hK1
  | some x =>
    have hx := r2 x rfl
    rw [show oN (some x) = Int32.ofNat x from rfl, if_pos (oN_ne (by omega)), r3.obj, Option.bind_some]
    unfold fD_takePackets
    obtain ⟨w2, g2, t1, t2, t3, t4, t5, t6⟩ := qM.p12 k x nx hk hx (by omega) cu m r8 r9 r3 hK1 m 0 FUEL 0 0 0 (by have := r9.1; show _ < 1000000; omega) (by omega) (by omega) (by omega)
    rw [show fD_takePackets_12 FUEL 37 (Int32.ofNat k) (Int32.ofNat x) (Int32.ofNat nx) cu 0 0 0 0 w1 = _ from t1, q_call, q_kV]
    exact (qPt.r317 t2 hk h31 t6 ht nu).pre (r6.tr t5) (r4.tr t3) Z1
theorem qPt.r253 (h : qM w z g) (hy : qY g 54 L) (hL : qby L) (hl : L.length ≤ 20000) {k nx t p many : Nat} (hk : k < 300) (h30 : z 30 = Int32.ofNat k) (h39 : z 39 = Int32.ofNat p) (hK : gK g k) (hm : g 42 7 = Int32.ofNat many) (hm4 : many ≤ 4) (hp : p + 12 ≤ nx) (hnx : nx ≤ L.length) (cu nu : Int32) (s : Bool) (ht : s = false → t < 24) : qPt w z g k nx (fD_readPart_253 37 (Int32.ofNat k) cu (Int32.ofNat nx) (Int32.ofNat t) nu (if s = true then 1 else 0) (Int32.ofNat k) 62 w) := by
  unfold fD_readPart_253
  have hn : vp_nar .boolean (if s = true then 1 else 0) = (if s = true then 1 else 0) := by cases s <;> decide
  obtain ⟨w1, e1, q1, F1⟩ := h.stn 62 2 k (if s = true then 1 else 0) rfl (by omega) (by omega) (by show _ < 300; omega) (by decide)
  have hK1 : gK (ug g 62 k (if s = true then 1 else 0)) k := by
    unfold gK
    rw [ug_ne _ _ _ (by decide), ug_ne _ _ _ (by decide)]
    exact hK
  have P1 := gP.u k g 62 k (if s = true then 1 else 0) (by omega)
  have l1 : p_ald w1 62 2 (Int32.ofNat k) = some (if s = true then 1 else 0) := by
    rw [q1.ldn 62 2 k rfl (by omega) (by omega) (by show k < 300; omega) (by decide), ug_self]
    unfold upd
    rw [if_pos rfl]
  rw [hn, e1, Option.bind_some, q1.R 36 62 rfl, Option.bind_some, l1, Option.bind_some]
  cases s
  · rw [if_neg (show ¬ ¬ (if false = true then (1 : Int32) else 0) = 0 from not_not_intro rfl), q1.I 39 rfl, Option.bind_some, h39, show Int32.ofNat p + 12 = Int32.ofNat (p + 12) from (Int32.ofNat_add p 12).symm]
    have go : ∀ fi : Int32, qPt w z g k nx (fD_readPart_285 37 (Int32.ofNat k) cu (Int32.ofNat nx) (Int32.ofNat t) nu fi (Int32.ofNat t) (Int32.ofNat nx) (Int32.ofNat (p + 12)) 37 w1) := fun fi => (qPt.r285 q1 (P1.f.y hy) hL hl hk h30 hK1 (ht rfl) (by rw [P1.1 42 (by omega) (by omega), hm]) hm4 hp hnx cu nu fi).pre F1 P1 zP.rf
    by_cases a : nu = 0
    · rw [if_neg (not_not_intro a)]
      exact go 1
    · rw [if_pos a]
      exact go 0
  · rw [if_pos (show ¬ (if true = true then (1 : Int32) else 0) = 0 by decide)]
    exact (qPt.r361 q1 hk h30 hK1 _).pre F1 P1 zP.rf
theorem qPt.r221 (h : qM w z g) (hy : qY g 54 L) (hL : qby L) (hl : L.length ≤ 20000) {k nx t p many : Nat} (hk : k < 300) (h30 : z 30 = Int32.ofNat k) (h39 : z 39 = Int32.ofNat p) (hK : gK g k) (hm : g 42 7 = Int32.ofNat many) (hm4 : many ≤ 4) (hp : p + 12 ≤ nx) (hnx : nx ≤ L.length) (cu nu : Int32) (s : Bool) (ht : s = false → t < 24) : qPt w z g k nx (fD_readPart_221 37 (Int32.ofNat k) cu (Int32.ofNat nx) (Int32.ofNat t) nu (if s = true then 1 else 0) (Int32.ofNat k) 62 w) := by
  unfold fD_readPart_221
  have hn : vp_nar .boolean (if s = true then 1 else 0) = (if s = true then 1 else 0) := by cases s <;> decide
  obtain ⟨w1, e1, q1, F1⟩ := h.stn 62 2 k (if s = true then 1 else 0) rfl (by omega) (by omega) (by show _ < 300; omega) (by decide)
  have hK1 : gK (ug g 62 k (if s = true then 1 else 0)) k := by
    unfold gK
    rw [ug_ne _ _ _ (by decide), ug_ne _ _ _ (by decide)]
    exact hK
  have P1 := gP.u k g 62 k (if s = true then 1 else 0) (by omega)
  have l1 : p_ald w1 62 2 (Int32.ofNat k) = some (if s = true then 1 else 0) := by
    rw [q1.ldn 62 2 k rfl (by omega) (by omega) (by show k < 300; omega) (by decide), ug_self]
    unfold upd
    rw [if_pos rfl]
  have go : ∀ s' : Bool, (s' = false → t < 24) → qPt w z g k nx (fD_readPart_253 37 (Int32.ofNat k) cu (Int32.ofNat nx) (Int32.ofNat t) nu (if s' = true then 1 else 0) (Int32.ofNat k) 62 w1) := fun s' hs' => (qPt.r253 q1 (P1.f.y hy) hL hl hk h30 h39 hK1 (by rw [P1.1 42 (by omega) (by omega), hm]) hm4 hp hnx cu nu s' hs').pre F1 P1 zP.rf
  rw [hn, e1, Option.bind_some, q1.R 36 62 rfl, Option.bind_some, Option.bind_some, l1, Option.bind_some]
  cases s
  · rw [if_neg (show ¬ ¬ (if false = true then (1 : Int32) else 0) = 0 from not_not_intro rfl), q1.R 38 64 rfl, Option.bind_some, q1.ldn 64 0 t rfl (by omega) (by omega) (by have := ht rfl; show t < 24; omega) (by decide), Option.bind_some]
    by_cases a : nu = ug g 62 k (if false = true then 1 else 0) 64 t
    · rw [if_pos a]
      exact go false ht
    · rw [if_neg a]
      exact go true (fun y => by cases y)
  · rw [if_pos (show ¬ (if true = true then (1 : Int32) else 0) = 0 by decide)]
    exact go true (fun y => by cases y)
theorem qPt.r126 (h : qM w z g) (hy : qY g 54 L) (hL : qby L) (hl : L.length ≤ 20000) {k nx p many : Nat} (hk : k < 300) (h30 : z 30 = Int32.ofNat k) (h39 : z 39 = Int32.ofNat p) (hT : gTl g) (hm : g 42 7 = Int32.ofNat many) (hm4 : many ≤ 4) (hp : p + 12 ≤ nx) (hnx : nx ≤ L.length) (cu : Int32) : qPt w z g k nx (fD_readPart_126 37 (Int32.ofNat k) cu (Int32.ofNat nx) w) := by
  have n4 := nb2_lt hL (p + 4)
  have n2 := nb2_lt hL (p + 2)
  unfold fD_readPart_126
  rw [h.I 39 rfl, Option.bind_some, h39, h.obj, Option.bind_some, show Int32.ofNat p + 4 = Int32.ofNat (p + 4) from (Int32.ofNat_add p 4).symm, h.two hy hL hl (p + 4) (by omega), q_call, q_kI, h.R 23 54 rfl, Option.bind_some, h.I 39 rfl, Option.bind_some, h39, show Int32.ofNat p + 10 = Int32.ofNat (p + 10) from (Int32.ofNat_add p 10).symm, h.had hy hL hl (p + 10) (by omega), Option.bind_some, h.R 32 58 rfl, Option.bind_some, Option.bind_some]
  obtain ⟨w1, e1, q1, F1⟩ := h.stn 58 0 k (Int32.ofNat p) rfl (by omega) (by omega) (by show _ < 300; omega) (by decide)
  rw [e1, Option.bind_some, q1.R 37 63 rfl, Option.bind_some]
  obtain ⟨w2, e2, q2, F2⟩ := q1.stn 63 2 k (vp_nar .boolean cu) rfl (by omega) (by omega) (by show _ < 300; omega) (by decide)
  rw [e2, Option.bind_some, q2.R 34 60 rfl, Option.bind_some]
  obtain ⟨w3, e3, q3, F3⟩ := q2.stn 60 0 k 0 rfl (by omega) (by omega) (by show _ < 300; omega) (by decide)
  rw [e3, Option.bind_some, q3.R 35 61 rfl, Option.bind_some]
  obtain ⟨w4, e4, q4, F4⟩ := q3.stn 61 0 k 0 rfl (by omega) (by omega) (by show _ < 300; omega) (by decide)
  have P := (((gP.u k g 58 k (Int32.ofNat p) (by omega)).tr (gP.u k _ 63 k (vp_nar .boolean cu) (by omega))).tr (gP.u k _ 60 k 0 (by omega))).tr (gP.u k _ 61 k 0 (by omega))
  have F := ((F1.tr F2).tr F3).tr F4
  have hK : gK (ug (ug (ug (ug g 58 k (Int32.ofNat p)) 63 k (vp_nar .boolean cu)) 60 k 0) 61 k 0) k := by
    refine ⟨0, ?_, by omega, Or.inl rfl⟩
    rw [ug_ne _ _ _ (by decide), ug_self]
    exact if_pos rfl
  have hy4 := P.f.y hy
  have hm4' : (ug (ug (ug (ug g 58 k (Int32.ofNat p)) 63 k (vp_nar .boolean cu)) 60 k 0) 61 k 0) 42 7 = Int32.ofNat many := by rw [P.1 42 (by omega) (by omega), hm]
  have hT4 : gTl (ug (ug (ug (ug g 58 k (Int32.ofNat p)) 63 k (vp_nar .boolean cu)) 60 k 0) 61 k 0) := by
    unfold gTl
    rw [P.1 42 (by omega) (by omega)]
    exact hT
  rw [e4, Option.bind_some, q4.R 36 62 rfl, Option.bind_some, q4.I 39 rfl, Option.bind_some, h39, q4.obj, Option.bind_some, show Int32.ofNat p + 2 = Int32.ofNat (p + 2) from (Int32.ofNat_add p 2).symm, q4.two hy4 hL hl (p + 2) (by omega), q_call, q_kI]
  have go : ∀ s : Bool, (s = false → nb2 L (p + 4) < 24) → qPt w z g k nx (fD_readPart_221 37 (Int32.ofNat k) cu (Int32.ofNat nx) (Int32.ofNat (nb2 L (p + 4))) (Int32.ofNat (nb L (p + 10))) (if s = true then 1 else 0) (Int32.ofNat k) 62 w4) := fun s hs => (qPt.r221 q4 hy4 hL hl hk h30 h39 hK hm4' hm4 hp hnx cu _ s hs).pre F P zP.rf
  by_cases a : Int32.ofNat (nb2 L (p + 2)) = 10
  · obtain ⟨v, ev, v1, v2⟩ := q4.tiles5 hT4
    rw [if_neg (not_not_intro a), q4.obj, Option.bind_some, ev, q_call, q_kI]
    by_cases b : Int32.ofNat (nb2 L (p + 4)) < v
    · rw [if_pos b]
      rw [q_lti, q_ofi (by omega)] at b
      exact go false (fun _ => by omega)
    · rw [if_neg b]
      exact go true (fun y => by cases y)
  · rw [if_pos a]
    exact go true (fun y => by cases y)
theorem qM.readPart (h : qM w z g) (hy : qY g 54 L) (hL : qby L) (hl : L.length ≤ 20000) {k p to many : Nat} (hk : k ≤ 300) (h30 : z 30 = Int32.ofNat k) (h39 : z 39 = Int32.ofNat p) (h40 : z 40 = Int32.ofNat to) (hT : gTl g) (hm : g 42 7 = Int32.ofNat many) (hm4 : many ≤ 4) (hp : p ≤ to) (hto : to ≤ L.length) : (k < 300 ∧ (p + 12 ≤ to ∧ nb L p = 255 ∧ nb L (p + 1) = 144 ∧ (nb4 L (p + 6) = 0 ∨ 14 ≤ nb4 L (p + 6))) ∧ qPt w z g k (s_nx L p to) (fD_readPart 37 w)) ∨ (¬ (k < 300 ∧ p + 12 ≤ to ∧ nb L p = 255 ∧ nb L (p + 1) = 144 ∧ (nb4 L (p + 6) = 0 ∨ 14 ≤ nb4 L (p + 6))) ∧ fD_readPart 37 w = some (.inl (some (.int 0)), w)) := by
  have l6 := nb4_lt hL (p + 6)
  have c12 : Int32.ofNat (to - p) < 12 ↔ to - p < 12 := q_lt (n := 12) (by omega) (by omega)
  have c300 : Int32.ofNat k = 300 ↔ k = 300 := q_of32 (y := 300) (by omega) (by omega)
  have c0 : lg_cmp (Int64.ofNat (nb4 L (p + 6))) 0 = 0 ↔ nb4 L (p + 6) = 0 := q_c64e (y := 0) (by omega) (by omega)
  have c14 : 0 ≤ lg_cmp (Int64.ofNat (nb4 L (p + 6))) 14 ↔ 14 ≤ nb4 L (p + 6) := q_c64ge (y := 14) (by omega) (by omega)
  have m144 := h.mark hy hL hl p to 144 (by omega) hp hto
  unfold fD_readPart
  rw [h.I 40 rfl, Option.bind_some, h.I 39 rfl, Option.bind_some, h40, h39, q_subn hp (by omega)]
  by_cases a0 : to - p < 12
  · rw [if_pos (c12.mpr a0)]
    exact Or.inr ⟨by omega, rfl⟩
  · rw [if_neg (fun y => a0 (c12.mp y)), Option.bind_some, Option.bind_some, h.obj, Option.bind_some, show fD_isMark 37 (Int32.ofNat p) (Int32.ofNat to) 144 w = _ from m144, q_call, q_kI]
    by_cases a1 : p + 2 ≤ to ∧ nb L p = 255 ∧ nb L (p + 1) = 144
    · rw [if_pos a1, if_neg (show ¬ (1 : Int32) = 0 by decide), h.I 30 rfl, Option.bind_some, h30]
      by_cases a2 : k = 300
      · rw [if_neg (not_not_intro (c300.mpr a2))]
        exact Or.inr ⟨by omega, rfl⟩
      · rw [if_pos (fun y => a2 (c300.mp y)), h.I 39 rfl, Option.bind_some, h39, h.obj, Option.bind_some, show Int32.ofNat p + 6 = Int32.ofNat (p + 6) from (Int32.ofNat_add p 6).symm, h.four hy hL hl (p + 6) (by omega), q_call, q_kJ]
        have hnx : nb4 L (p + 6) = 0 ∨ 14 ≤ nb4 L (p + 6) → p + 12 ≤ s_nx L p to ∧ s_nx L p to ≤ to := fun _ => by
          unfold s_nx
          split <;> omega
        have go : nb4 L (p + 6) = 0 ∨ 14 ≤ nb4 L (p + 6) → qPt w z g k (s_nx L p to) (fD_readPart_72 37 (Int64.ofNat (nb4 L (p + 6))) w) := by
          intro hs
          have hn := hnx hs
          have fin : ∀ cu : Int32, qPt w z g k (s_nx L p to) (fD_readPart_126 37 (Int32.ofNat k) cu (Int32.ofNat (s_nx L p to)) w) := fun cu => qPt.r126 h hy hL hl (by omega) h30 h39 hT hm hm4 hn.1 (by omega) cu
          have es : Int32.toInt64 (Int32.ofNat p) + Int64.ofNat (nb4 L (p + 6)) = Int64.ofNat (p + nb4 L (p + 6)) := by
            rw [q_64n p (by omega)]
            exact (Int64.ofNat_add _ _).symm
          have cl : lg_cmp (Int64.ofNat (p + nb4 L (p + 6))) (Int64.ofNat to) ≤ 0 ↔ p + nb4 L (p + 6) ≤ to := q_c64le (by omega) (by omega)
          unfold fD_readPart_72
          rw [h.I 30 rfl, Option.bind_some, h.I 39 rfl, Option.bind_some, h.I 40 rfl, Option.bind_some, h30, h39, h40, es, q_64n to (by omega)]
          unfold fD_readPart_98
          by_cases b1 : nb4 L (p + 6) = 0
          · have e : s_nx L p to = to := if_pos (Or.inl b1)
            rw [if_pos (cl.mpr (by omega)), if_pos (c0.mpr b1), h.I 40 rfl, Option.bind_some, h40]
            have := fin 0
            rw [e] at this ⊢
            exact this
          · have b1' : ¬ lg_cmp (Int64.ofNat (nb4 L (p + 6))) 0 = 0 := fun y => b1 (c0.mp y)
            by_cases b2 : p + nb4 L (p + 6) ≤ to
            · have e : s_nx L p to = p + nb4 L (p + 6) := if_neg (by omega)
              rw [if_pos (cl.mpr b2), if_neg b1', if_pos rfl, h.I 39 rfl, Option.bind_some, h39, es, q_32n]
              have := fin 0
              rw [e] at this ⊢
              exact this
            · have e : s_nx L p to = to := if_pos (Or.inr (by omega))
              rw [if_neg (fun y => b2 (cl.mp y)), if_neg b1', if_neg (show ¬ (1 : Int32) = 0 by decide), h.I 40 rfl, Option.bind_some, h40]
              have := fin 1
              rw [e] at this ⊢
              exact this
        by_cases a3 : nb4 L (p + 6) = 0
        · rw [if_pos (c0.mpr a3)]
          exact Or.inl ⟨by omega, ⟨by omega, a1.2.1, a1.2.2, Or.inl a3⟩, go (Or.inl a3)⟩
        · rw [if_neg (fun y => a3 (c0.mp y))]
          by_cases a4 : 14 ≤ nb4 L (p + 6)
          · rw [if_pos (c14.mpr a4)]
            exact Or.inl ⟨by omega, ⟨by omega, a1.2.1, a1.2.2, Or.inr a4⟩, go (Or.inr a4)⟩
          · rw [if_neg (fun y => a4 (c14.mp y))]
            exact Or.inr ⟨by omega, rfl⟩
    · rw [if_neg a1, if_pos rfl]
      exact Or.inr ⟨fun y => a1 ⟨by omega, y.2.2.1, y.2.2.2.1⟩, rfl⟩
end
/-- boxes lie within the file -/
def uOk (U : List (Nat × Nat)) (n : Nat) : Prop := ∀ q ∈ U, q.1 + 8 ≤ q.2 ∧ q.2 ≤ n
theorem uOk.snoc {U : List (Nat × Nat)} {n p x : Nat} (h : uOk U n) (h1 : p + 8 ≤ x) (h2 : x ≤ n) : uOk (U ++ [(p, x)]) n := by
  intro q hq
  rcases List.mem_append.mp hq with hq | hq
  · exact h q hq
  · rw [List.mem_singleton] at hq
    subst hq
    exact ⟨h1, h2⟩
theorem s_in_U (L : List Int32) (to n : Nat) (hn : to ≤ n) : ∀ (f : Nat) (first : Bool) (p : Nat) (c : Int32) (U : List (Nat × Nat)), uOk U n → uOk (s_in L to f first p c U).2.2 n
  | 0, _, p, c, U, h => h
  | f + 1, first, p, c, U, h => by
    rw [s_in]
    by_cases h1 : first = false ∧ to ≤ p
    · rw [if_pos h1]
      exact h
    · rw [if_neg h1]
      cases hs : s_end L p to false with
      | none => exact h
      | some x =>
        have := s_end_le hs
        dsimp only
        split
        · split
          · exact s_in_U L to n hn f _ _ _ _ h
          · exact h
        · split
          · exact s_in_U L to n hn f _ _ _ _ h
          · exact s_in_U L to n hn f _ _ _ _ (h.snoc (by omega) (by omega))
theorem s_bx_U (L : List Int32) (to : Nat) : ∀ (f p : Nat) (c : Int32) (U : List (Nat × Nat)), uOk U to → uOk (s_bx L to f p c U).2.2.1 to
  | 0, p, c, U, h => h
  | f + 1, p, c, U, h => by
    rw [s_bx]
    by_cases h1 : to ≤ p
    · rw [if_pos h1]
      exact h
    · rw [if_neg h1]
      cases hs : s_end L p to true with
      | none => exact h
      | some x =>
        have hx := s_end_le hs
        dsimp only
        split
        · exact h
        · split
          · have hi := s_in_U L x to (by omega) 2600 true (p + 8) c U h
            cases hb : (s_in L x 2600 true (p + 8) c U).1 with
            | some b => exact hi
            | none => exact s_bx_U L to f x _ _ hi
          · split
            · exact s_bx_U L to f x _ _ h
            · exact s_bx_U L to f x _ _ (h.snoc (by omega) (by omega))
theorem s_bx_none (L : List Int32) (to : Nat) : ∀ (f p : Nat) (c : Int32) (U : List (Nat × Nat)), (s_bx L to f p c U).1 = none → ∃ a b, (s_bx L to f p c U).2.2.2 = some (a, b)
  | 0, p, c, U, h => by cases h
  | f + 1, p, c, U, h => by
    rw [s_bx] at h ⊢
    by_cases h1 : to ≤ p
    · rw [if_pos h1] at h
      cases h
    · rw [if_neg h1] at h ⊢
      cases hs : s_end L p to true with
      | none =>
        rw [hs] at h
        cases h
      | some x =>
        rw [hs] at h
        dsimp only at h ⊢
        by_cases k1 : nb4 L (p + 4) = 1785737827
        · rw [if_pos k1] at h ⊢
          exact ⟨_, _, rfl⟩
        · rw [if_neg k1] at h ⊢
          by_cases k2 : nb4 L (p + 4) = 1785737832
          · rw [if_pos k2] at h ⊢
            cases hb : (s_in L x 2600 true (p + 8) c U).1 with
            | some b' =>
              rw [hb] at h
              cases h
            | none =>
              rw [hb] at h
              exact s_bx_none L to f x _ _ h
          · rw [if_neg k2] at h ⊢
            by_cases k3 : nb4 L (p + 4) = 1718909296
            · rw [if_pos k3] at h ⊢
              exact s_bx_none L to f x _ _ h
            · rw [if_neg k3] at h ⊢
              exact s_bx_none L to f x _ _ h
theorem s_find_ok (L : List Int32) : uOk (s_find L).2.2.1 L.length ∧ (s_find L).2.2.1.length ≤ L.length ∧ ((s_find L).1 = none → ∃ a b, (s_find L).2.2.2 = some (a, b) ∧ a ≤ b ∧ b ≤ L.length) ∧ (∀ b, (s_find L).1 = some b → b ≤ L.length) := by
  unfold s_find
  by_cases h1 : 2 ≤ L.length ∧ nb L 0 = 255 ∧ nb L 1 = 79
  · rw [if_pos h1]
    exact ⟨(fun q hq => by cases hq), Nat.zero_le _, (fun _ => ⟨0, L.length, rfl, Nat.zero_le _, Nat.le_refl _⟩), (fun b hb => by cases hb)⟩
  · rw [if_neg h1]
    by_cases h2 : 12 ≤ L.length ∧ nb4 L 0 = 12 ∧ nb4 L 4 = 1783636000 ∧ nb4 L 8 = 218793738
    · rw [if_pos h2]
      refine ⟨s_bx_U L _ _ _ _ _ (fun q hq => by cases hq), ?_, fun h => ?_, fun b hb => ?_⟩
      · have := s_bx_len L L.length 2600 12 (-1) [] (by simp) h2.1
        omega
      · obtain ⟨a, b, e⟩ := s_bx_none L _ _ _ _ _ h
        have := s_bx_at L L.length 2600 12 (-1) [] a b h2.1 e
        exact ⟨a, b, e, this.2.1, this.2.2⟩
      · exact s_bx_b L L.length 2600 12 (-1) [] b h2.1 hb
    · rw [if_neg h2]
      exact ⟨(fun q hq => by cases hq), Nat.zero_le _, (fun h => by cases h), (fun b hb => by injection hb with hb; omega)⟩
section
variable {w : PW} {z : Nat → Int32} {g : Nat → Nat → Int32} {L : List Int32}
theorem qM.st32 (hL : qby L) (hl : L.length ≤ 20000) (to many : Nat) (hm4 : many ≤ 4) (hto : to ≤ L.length) : ∀ (f p k F : Nat) (w : PW) (z : Nat → Int32) (g : Nat → Nat → Int32), qM w z g → qY g 54 L → z 30 = Int32.ofNat k → z 39 = Int32.ofNat p → z 40 = Int32.ofNat to → gTl g → g 42 7 = Int32.ofNat many → (∀ j, j < k → gK g j) → p ≤ to → k + f = 300 → f + 1 < F → ∃ w' z' g', fD_readStream_32 F 37 1 w = some (.inl (some (.int 1)), w') ∧ qM w' z' g' ∧ gF g g' ∧ g' 42 = g 42 ∧ qI 37 66 w w' ∧ zP z z' ∧ z' 30 = Int32.ofNat (s_pts L to f p k) ∧ s_pts L to f p k ≤ 300 ∧ ∀ j, j < s_pts L to f p k → gK g' j := by
  intro f
  induction f with
  | zero =>
    intro p k F w z g h hy h30 h39 h40 hT hm hK hp hk hF
    obtain ⟨F, rfl⟩ : ∃ F', F = F' + 1 + 1 := ⟨F - 2, by omega⟩
    have m217 := h.mark hy hL hl p to 217 (by omega) hp hto
    rw [fD_readStream_32, if_neg (show ¬ (1 : Int32) = 0 by decide), h.I 39 rfl, Option.bind_some, h.I 40 rfl, Option.bind_some, h39, h40, h.obj, Option.bind_some, show fD_isMark 37 (Int32.ofNat p) (Int32.ofNat to) 217 w = _ from m217, q_call, q_kI]
    have fin : ∃ w' z' g', (some (.inl (some (.int 1)), w) : PX) = some (.inl (some (.int 1)), w') ∧ qM w' z' g' ∧ gF g g' ∧ g' 42 = g 42 ∧ qI 37 66 w w' ∧ zP z z' ∧ z' 30 = Int32.ofNat (s_pts L to 0 p k) ∧ s_pts L to 0 p k ≤ 300 ∧ ∀ j, j < s_pts L to 0 p k → gK g' j := ⟨w, z, g, rfl, h, gF.rf, rfl, qI.rf, zP.rf, h30, by show k ≤ 300; omega, hK⟩
    by_cases a : p + 2 ≤ to ∧ nb L p = 255 ∧ nb L (p + 1) = 217
    · rw [if_pos a, if_pos (show ¬ (1 : Int32) = 0 by decide)]
      exact fin
    · rw [if_neg a, if_neg (show ¬ ¬ (0 : Int32) = 0 from not_not_intro rfl), h.obj, Option.bind_some]
      rcases h.readPart hy hL hl (by omega) h30 h39 h40 hT hm hm4 hp hto with ⟨b, -⟩ | ⟨-, e⟩
      · omega
      · rw [e, q_call, q_kI, fD_readStream_32, if_pos rfl]
        exact fin
  | succ f ih =>
    intro p k F w z g h hy h30 h39 h40 hT hm hK hp hk hF
    obtain ⟨F, rfl⟩ : ∃ F', F = F' + 1 + 1 := ⟨F - 2, by omega⟩
    have m217 := h.mark hy hL hl p to 217 (by omega) hp hto
    rw [fD_readStream_32, if_neg (show ¬ (1 : Int32) = 0 by decide), h.I 39 rfl, Option.bind_some, h.I 40 rfl, Option.bind_some, h39, h40, h.obj, Option.bind_some, show fD_isMark 37 (Int32.ofNat p) (Int32.ofNat to) 217 w = _ from m217, q_call, q_kI]
    have fin : ¬ (p + 12 ≤ to ∧ nb L p = 255 ∧ nb L (p + 1) = 144 ∧ (nb4 L (p + 6) = 0 ∨ 14 ≤ nb4 L (p + 6))) → ∃ w' z' g', (some (.inl (some (.int 1)), w) : PX) = some (.inl (some (.int 1)), w') ∧ qM w' z' g' ∧ gF g g' ∧ g' 42 = g 42 ∧ qI 37 66 w w' ∧ zP z z' ∧ z' 30 = Int32.ofNat (s_pts L to (f + 1) p k) ∧ s_pts L to (f + 1) p k ≤ 300 ∧ ∀ j, j < s_pts L to (f + 1) p k → gK g' j := by
      intro hn
      have e : s_pts L to (f + 1) p k = k := by rw [s_pts, if_neg hn]
      rw [e]
      exact ⟨w, z, g, rfl, h, gF.rf, rfl, qI.rf, zP.rf, h30, by omega, hK⟩
    by_cases a : p + 2 ≤ to ∧ nb L p = 255 ∧ nb L (p + 1) = 217
    · rw [if_pos a, if_pos (show ¬ (1 : Int32) = 0 by decide)]
      exact fin (fun y => by have := y.2.2.1; omega)
    · rw [if_neg a, if_neg (show ¬ ¬ (0 : Int32) = 0 from not_not_intro rfl), h.obj, Option.bind_some]
      rcases h.readPart hy hL hl (by omega) h30 h39 h40 hT hm hm4 hp hto with ⟨b, hc, w1, z1, g1, e1, q1, P1, F1, Z1, y30, y39, K1⟩ | ⟨hn, e⟩
      · have hnx : s_nx L p to ≤ to := by
          unfold s_nx
          split <;> omega
        have e : s_pts L to (f + 1) p k = s_pts L to f (s_nx L p to) (k + 1) := by rw [s_pts, if_pos hc]
        rw [e1, q_call, q_kI, e]
        obtain ⟨w2, z2, g2, r1, r2, r3, r4, r5, r6, r7, r8, r9⟩ := ih (s_nx L p to) (k + 1) (F + 1) w1 z1 g1 q1 (P1.f.y hy) y30 y39 (by rw [Z1 40 (by decide) (by decide) (by decide), h40]) (by unfold gTl; rw [P1.1 42 (by omega) (by omega)]; exact hT) (by rw [P1.1 42 (by omega) (by omega), hm]) (fun j hj => by
          by_cases ej : j = k
          · rw [ej]; exact K1
          · obtain ⟨b, x1, x2, x3⟩ := hK j (by omega)
            unfold gK
            rw [P1.2.2.2.1 60 (by omega) (by omega) j ej, P1.2.2.2.1 59 (by omega) (by omega) j ej]
            exact ⟨b, x1, x2, x3⟩) hnx (by omega) (by omega)
        exact ⟨w2, z2, g2, r1, r2, P1.f.tr r3, by rw [r4, P1.1 42 (by omega) (by omega)], F1.tr r5, Z1.tr r6, r7, r8, r9⟩
      · rw [e, q_call, q_kI, fD_readStream_32, if_pos rfl]
        exact fin (fun y => hn ⟨by omega, y⟩)
theorem qM.st11 (to p many : Nat) (hL : qby L) (hl : L.length ≤ 20000) (hm4 : many ≤ 4) (hto : to ≤ L.length) (hp : p ≤ to) (h30 : z 30 = 0) (h39 : z 39 = Int32.ofNat p) (h40 : z 40 = Int32.ofNat to) : ∀ (n t F : Nat) (w : PW) (g : Nat → Nat → Int32), qM w z g → qY g 54 L → gTl g → g 42 7 = Int32.ofNat many → t + n = 24 → n < F → ∃ w' z' g', fD_readStream_11 F 37 (Int32.ofNat t) w = some (.inl (some (.int 1)), w') ∧ qM w' z' g' ∧ gF g g' ∧ g' 42 = g 42 ∧ qI 37 66 w w' ∧ zP z z' ∧ z' 30 = Int32.ofNat (s_pts L to 300 p 0) ∧ s_pts L to 300 p 0 ≤ 300 ∧ ∀ j, j < s_pts L to 300 p 0 → gK g' j
  | 0, t, F + 1, w, g, h, hy, hT, hm, ht, _ => by
    rw [fD_readStream_11, if_pos (show (24 : Int32) ≤ Int32.ofNat t from (q_of_le (m := 24) (by omega) (by omega)).mpr (by omega))]
    exact qM.st32 hL hl to many hm4 hto 300 p 0 FUEL w z g h hy h30 h39 h40 hT hm (fun j hj => by omega) hp (by omega) (by decide)
  | n + 1, t, F + 1, w, g, h, hy, hT, hm, ht, hF => by
    obtain ⟨w1, e1, q1, F1⟩ := h.stn 64 0 t 0 rfl (by omega) (by omega) (by show t < 24; omega) (by decide)
    rw [fD_readStream_11, if_neg (show ¬ (24 : Int32) ≤ Int32.ofNat t from fun hh => by have := (q_of_le (m := 24) (n := t) (by omega) (by omega)).mp hh; omega), h.R 38 64 rfl, Option.bind_some, e1, Option.bind_some, q_let, show Int32.ofNat t + 1 = Int32.ofNat (t + 1) from (Int32.ofNat_add t 1).symm]
    have P1 := gP.u 0 g 64 t 0 (by omega)
    obtain ⟨w2, z2, g2, r1, r2, r3, r4, r5, r6⟩ := qM.st11 to p many hL hl hm4 hto hp h30 h39 h40 n (t + 1) F w1 _ q1 (P1.f.y hy) (by unfold gTl; rw [P1.1 42 (by omega) (by omega)]; exact hT) (by rw [P1.1 42 (by omega) (by omega), hm]) (by omega) (by omega)
    exact ⟨w2, z2, g2, r1, r2, P1.f.tr r3, by rw [r4, P1.1 42 (by omega) (by omega)], F1.tr r5, r6⟩
/-- the stream read by the reference -/
theorem qM.stream (h : qM w z g) (hy : qY g 54 L) (hL : qby L) (hl : L.length ≤ 20000) (hz : z 41 = -1) (h30 : z 30 = 0) (fr to : Nat) (h39 : z 39 = Int32.ofNat fr) (h40 : z 40 = Int32.ofNat to) (hp : fr ≤ to) (hto : to ≤ L.length) (h1 : g 39 125 = 0) (h2 : g 40 125 = 0) : ∃ w' z' g', fD_readStream 37 w = some (.inl (some (.int (o1 (s_head L fr to).1))), w') ∧ qM w' z' g' ∧ gF g g' ∧ qI 37 66 w w' ∧ (∀ j, j ≠ 30 → j ≠ 39 → j ≠ 41 → j ≠ 43 → z' j = z j) ∧ z' 41 = oN (s_head L fr to).1 ∧ ((s_head L fr to).1 = none → gTl g' ∧ z' 30 = Int32.ofNat (s_pts L to 300 (s_head L fr to).2 0) ∧ s_pts L to 300 (s_head L fr to).2 0 ≤ 300 ∧ ∀ j, j < s_pts L to 300 (s_head L fr to).2 0 → gK g' j) ∧ ((s_head L fr to).1 ≠ none → z' 30 = 0) := by
  obtain ⟨w1, z1, g1, r1, r2, r3, r4, r5, r6, r7⟩ := h.head hy hL hl hz fr to h39 h40 hp hto h1 h2
  unfold fD_readStream
  rw [h.obj, Option.bind_some, r1, q_call, q_kI]
  cases hs : (s_head L fr to).1 with
  | some b =>
    rw [show o1 (some b) = 0 from rfl, if_neg (show ¬ ¬ (0 : Int32) = 0 from not_not_intro rfl)]
    rw [hs] at r6
    exact ⟨w1, z1, g1, rfl, r2, r3, r4, fun j a b c d => r5 j b c, r6, (fun y => by cases y), fun _ => by rw [r5 30 (by decide) (by decide), h30]⟩
  | none =>
    obtain ⟨x1, x2, x3, x4, x5⟩ := r7 hs
    have hT := gTl.of x5 x3 x4
    rw [show o1 none = 1 from rfl, if_pos (show ¬ (1 : Int32) = 0 by decide)]
    obtain ⟨w2, z2, g2, t1, t2, t3, t4, t5, t6, t7, t8, t9⟩ := qM.st11 (z := z1) to _ _ hL hl x4.2 hto x2 (by rw [r5 30 (by decide) (by decide), h30]) x1 (by rw [r5 40 (by decide) (by decide), h40]) 24 0 FUEL w1 g1 r2 (r3.y hy) hT x5.2.2.1 (by omega) (by decide)
    refine ⟨w2, z2, g2, t1, t2, r3.tr t3, r4.tr t5, fun j a b c d => by rw [t6 j a b d, r5 j b c], ?_, fun _ => ⟨?_, t7, t8, t9⟩, fun y => absurd rfl y⟩
    · rw [t6 41 (by decide) (by decide) (by decide), r6, hs]
    · unfold gTl
      rw [t4]
      exact hT
end
