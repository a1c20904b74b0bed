theorem qB.uniq {w : PW} {a r r' mo n n' : Nat} {L L' : List Int32} {f f' : Nat → Int32} (h : qB w a r mo n L f) (k : qB w a r' mo n' L' f') : r = r' ∧ n = n' ∧ f = f' ∧ L = L' := by
  have e1 := h.o
  rw [k.o] at e1
  injection e1 with e1
  injection e1 with e1
  injection e1 with _ e1
  injection e1 with _ e1
  injection e1 with e2 e1
  injection e1 with e3 _
  injection e2 with e2
  injection e3 with e3
  subst e2
  have e4 := h.d
  rw [k.d] at e4
  injection e4 with e4
  injection e4 with e4
  injection e4 with _ e4
  injection e4 with e5 e6
  injection e6 with e6
  subst e5 e6
  have hl := h.2.2.2.1
  have kl := k.2.2.2.1
  have hm := h.2.2.2.2.1
  have e7 : L'.length = L.length := (q_of32 (by omega) (by omega)).mp e3
  refine ⟨rfl, rfl, rfl, List.ext_getElem e7.symm (fun i h1 h2 => ?_)⟩
  rw [← h.2.2.2.2.2.2.2.2 i h1, ← k.2.2.2.2.2.2.2.2 i h2]
theorem qP.uniq {w : PW} {x : Nat} {t t' b b' : Int32} {l l' a a' r r' n n' pk pk' : Nat} {ln ln' : Nat → Int32} {L L' : List Int32} {f f' : Nat → Int32} (h : qP w x t b l a r n pk ln L f) (k : qP w x t' b' l' a' r' n' pk' ln' L' f') : t = t' ∧ b = b' ∧ l = l' ∧ a = a' ∧ r = r' ∧ n = n' ∧ ln = ln' ∧ L = L' ∧ f = f' := by
  obtain ⟨h1, h2, h3, h4⟩ := h
  obtain ⟨k1, k2, k3, k4⟩ := k
  rw [k1] at h1
  injection h1 with h1
  injection h1 with h1
  injection h1 with _ h1
  injection h1 with e1 h1
  injection h1 with e2 h1
  injection h1 with e3 h1
  injection h1 with e4 h1
  injection e1 with e1
  injection e2 with e2
  injection e3 with e3
  injection e4 with e4
  subst e1 e2 e3 e4
  rw [k2] at h2
  injection h2 with h2
  injection h2 with h2
  injection h2 with _ h2
  injection h2 with _ h2
  injection h2 with e5
  subst e5
  obtain ⟨u1, u2, u3, u4⟩ := h3.uniq k3
  exact ⟨rfl, rfl, rfl, rfl, u1, u2, rfl, u4, u3⟩
theorem q_pkc_v (n : Nat) (pk : Nat → Nat) (p : Int32) : q_pkc n pk p = 0 ∨ q_pkc n pk p = 1 ∨ q_pkc n pk p = 2 := by
  unfold q_pkc
  split
  · exact Or.inr (Or.inl rfl)
  · split
    · exact Or.inr (Or.inr rfl)
    · exact Or.inl rfl
theorem q_boc_v (n : Nat) (pk ps : Nat → Nat) (p b : Int32) : q_boc n pk ps p b = 0 ∨ q_boc n pk ps p b = 1 ∨ q_boc n pk ps p b = 2 ∨ q_boc n pk ps p b = 3 ∨ q_boc n pk ps p b = 4 := by
  unfold q_boc
  split
  · exact Or.inr (Or.inl rfl)
  · split
    · exact Or.inr (Or.inr (Or.inl rfl))
    · split
      · exact Or.inr (Or.inr (Or.inr (Or.inl rfl)))
      · split
        · exact Or.inr (Or.inr (Or.inr (Or.inr rfl)))
        · exact Or.inl rfl
theorem q_bbc_v (n : Nat) (ps : Nat → Nat) (p b : Int32) : q_bbc n ps p b = 0 ∨ q_bbc n ps p b = 1 ∨ q_bbc n ps p b = 2 ∨ q_bbc n ps p b = 3 := by
  unfold q_bbc
  split
  · exact Or.inr (Or.inl rfl)
  · split
    · exact Or.inr (Or.inr (Or.inl rfl))
    · split
      · exact Or.inr (Or.inr (Or.inr rfl))
      · exact Or.inl rfl
theorem q_pkc_0 {n : Nat} {pk : Nat → Nat} {p : Int32} (h : q_pkc n pk p = 0) : (0 ≤ p.toInt ∧ p.toInt < n) ∧ pk p.toInt.toNat < 20 := by
  unfold q_pkc at h
  by_cases a : 0 ≤ p.toInt ∧ p.toInt < n
  · rw [if_neg (not_not_intro a)] at h
    by_cases b : 20 ≤ pk p.toInt.toNat
    · rw [if_pos b] at h; exact absurd h (by decide)
    · exact ⟨a, by omega⟩
  · rw [if_pos a] at h; exact absurd h (by decide)
theorem q_boc_0 {n : Nat} {pk ps : Nat → Nat} {p b : Int32} (h : q_boc n pk ps p b = 0) : (0 ≤ p.toInt ∧ p.toInt < n) ∧ pk p.toInt.toNat ≠ 0 ∧ ps p.toInt.toNat < 300 := by
  unfold q_boc at h
  by_cases a : 0 ≤ p.toInt ∧ p.toInt < n
  · rw [if_neg (not_not_intro a)] at h
    by_cases d : pk p.toInt.toNat = 0
    · rw [if_pos d] at h; exact absurd h (by decide)
    · rw [if_neg d] at h
      by_cases e : ¬ (0 ≤ b.toInt ∧ b.toInt ≤ 255)
      · rw [if_pos e] at h; exact absurd h (by decide)
      · rw [if_neg e] at h
        by_cases f : 300 ≤ ps p.toInt.toNat
        · rw [if_pos f] at h; exact absurd h (by decide)
        · exact ⟨a, d, by omega⟩
  · rw [if_pos a] at h; exact absurd h (by decide)
theorem q_bbc_0 {n : Nat} {ps : Nat → Nat} {p b : Int32} (h : q_bbc n ps p b = 0) : (0 ≤ p.toInt ∧ p.toInt < n) ∧ ps p.toInt.toNat < 40 := by
  unfold q_bbc at h
  by_cases a : 0 ≤ p.toInt ∧ p.toInt < n
  · rw [if_neg (not_not_intro a)] at h
    by_cases e : ¬ (0 ≤ b.toInt ∧ b.toInt ≤ 255)
    · rw [if_pos e] at h; exact absurd h (by decide)
    · rw [if_neg e] at h
      by_cases f : 40 ≤ ps p.toInt.toNat
      · rw [if_pos f] at h; exact absurd h (by decide)
      · exact ⟨a, by omega⟩
  · rw [if_pos a] at h; exact absurd h (by decide)
section
variable {c : Nat} {w w' : PW} {T T' : Nat → Nat} {tw th : Int32} {sz dp nm sy sp : Nat → Int32} {n m : Nat} {pt : Nat → Int32} {pk pk' : Nat → Nat} {lv lv' : Nat → Nat → Nat} {pL pL' : Nat → List Int32} {bi bk : Nat → Int32} {bL bL' : Nat → List Int32} {Lo Lf Lt L' : List Int32} {rd : Int32} {U : List (Nat × Nat)} {no nf nt n4 n6 n' : Nat} {z z' : Nat → Int32} {g g' : Nat → Nat → Int32}
/-- the reference's rows of parts change -/
theorem JM.pp (h : JM z g tw th sz dp nm sy sp n m pt pk lv pL bi bk bL Lo Lf Lt U) (hz : ∀ u, u ≠ 0 → z' u = z u) (hg : ∀ u, (u < 43 ∨ 47 < u) → g' u = g u) (hp : qRp g' n pt pk' lv' pL') : JM z' g' tw th sz dp nm sy sp n m pt pk' lv' pL' bi bk bL Lo Lf Lt U := by
  obtain ⟨⟨h1, h1'⟩, ⟨h2, h2', h2''⟩, ⟨h3, h3'⟩, ⟨h4, h4'⟩, ⟨h5, h5'⟩, ⟨h6, h6'⟩, h7, h8, h8'⟩ := h
  exact ⟨⟨h1.kg (fun r a b => hg r (by omega)), h1'⟩, ⟨by rw [hz 8 (by decide), h2], h2', hp⟩, ⟨by rw [hz 14 (by decide), h3], h3'.kg (fun r a b => hg r (by omega))⟩, ⟨by rw [hz 20 (by decide), h4], h4'.kg (hg 52 (by omega))⟩, ⟨by rw [hz 22 (by decide), h5], h5'.kg (hg 53 (by omega))⟩, ⟨h6.kg (fun r a => hg r (by omega)) (fun i _ => by rw [hg 42 (by omega)]) ⟨hz 25 (by decide), hz 27 (by decide), hz 30 (by decide)⟩, h6'⟩, fun j => by rw [hg 39 (by omega), hg 40 (by omega)]; exact h7 j, by rw [hz 1 (by decide), h8], by rw [hz 2 (by decide), h8']⟩
theorem JM.xx (h : JM z g tw th sz dp nm sy sp n m pt pk lv pL bi bk bL Lo Lf Lt U) (hz : ∀ u, u ≠ 0 → z' u = z u) (hg : ∀ u, (u < 48 ∨ 51 < u) → g' u = g u) (hp : qRb g' m bi bk bL') : JM z' g' tw th sz dp nm sy sp n m pt pk lv pL bi bk bL' Lo Lf Lt U := by
  obtain ⟨⟨h1, h1'⟩, ⟨h2, h2', h2''⟩, ⟨h3, h3'⟩, ⟨h4, h4'⟩, ⟨h5, h5'⟩, ⟨h6, h6'⟩, h7, h8, h8'⟩ := h
  exact ⟨⟨h1.kg (fun r a b => hg r (by omega)), h1'⟩, ⟨by rw [hz 8 (by decide), h2], h2', h2''.kg (fun r a b => hg r (by omega))⟩, ⟨by rw [hz 14 (by decide), h3], hp⟩, ⟨by rw [hz 20 (by decide), h4], h4'.kg (hg 52 (by omega))⟩, ⟨by rw [hz 22 (by decide), h5], h5'.kg (hg 53 (by omega))⟩, ⟨h6.kg (fun r a => hg r (by omega)) (fun i _ => by rw [hg 42 (by omega)]) ⟨hz 25 (by decide), hz 27 (by decide), hz 30 (by decide)⟩, h6'⟩, fun j => by rw [hg 39 (by omega), hg 40 (by omega)]; exact h7 j, by rw [hz 1 (by decide), h8], by rw [hz 2 (by decide), h8']⟩
/-- one part of the class changes -/
theorem JC.p1 (h : JC w T tw th sz dp nm sy sp n m pt pk lv pL bi bk bL Lo Lf Lt rd U no nf nt n4 n6) {j : Nat} (hj : j < 40) (D : qDf (fun _ => False) (fun t => 1000 + 10 * j ≤ t ∧ t < 1000 + 10 * j + 10) T T' w w') (hp : ∀ k, k ≠ j → pk' k = pk k ∧ lv' k = lv k ∧ pL' k = pL k) (hq : ∀ e P x, qL w 7 e P → (∀ k x, P[k]? = some x → jP1 w T k x (pt k) (Int32.ofNat (q_cnt pt (pt k) k 0)) (pk k) (lv k) (pL k)) → P[j]? = some x → jP1 w' T' j x (pt j) (Int32.ofNat (q_cnt pt (pt j) j 0)) (pk' j) (lv' j) (pL' j)) : JC w' T' tw th sz dp nm sy sp n m pt pk' lv' pL' bi bk bL Lo Lf Lt rd U no nf nt n4 n6 := by
  obtain ⟨h1, h2, h3, h4, h5, h6, h7, h8, h9, h10, h11, f, h12⟩ := h
  refine ⟨Nat.le_trans h1 D.1, D.ats h2 (Or.inl ⟨by omega, id⟩), h3, D.ats h4 (Or.inl ⟨by omega, id⟩), h5.keep (fun x a b => D.at (by omega) (Or.inl ⟨by omega, id⟩)), ?_, h7.kp D id (by omega) (fun _ _ _ => by omega), h8.kp D (by omega) id id (by omega), h9.kp D (by omega) id id (by omega), h10.kp D (by omega) id id (by omega), h11.kp D (fun x a b => id) (by omega) (by omega), f, D.ats h12 (Or.inl ⟨by omega, id⟩)⟩
  obtain ⟨e, P, hl, hn, he, hP⟩ := h6
  have hP' : ∀ k x, P[k]? = some x → jP1 w' T' k x (pt k) (Int32.ofNat (q_cnt pt (pt k) k 0)) (pk' k) (lv' k) (pL' k) := fun k x hx => by
    by_cases e1 : k = j
    · subst e1
      exact hq e P x hl hP hx
    · obtain ⟨a1, a2, a3⟩ := hp k e1
      rw [a1, a2, a3]
      exact (hP k x hx).kp D (fun t b1 b2 => by omega)
  refine ⟨e, P, hl.kp D (by omega) id he (by omega) (fun x hx => ?_), hn, fun y hy => by rw [D.2.2 y (hl.elt hy)]; exact he y hy, hP'⟩
  obtain ⟨k, hk⟩ := List.mem_iff_getElem?.mp hx
  obtain ⟨l, a, r, nn, ln, f, hq, -⟩ := hP' k x hk
  exact p_elt_of8 hq.1
theorem JC.x1 (h : JC w T tw th sz dp nm sy sp n m pt pk lv pL bi bk bL Lo Lf Lt rd U no nf nt n4 n6) {j : Nat} (hj : j < 8) (D : qDf (fun _ => False) (fun t => 2000 + 10 * j ≤ t ∧ t < 2000 + 10 * j + 10) T T' w w') (hp : ∀ k, k ≠ j → bL' k = bL k) (hq : ∀ e P x, qL w 8 e P → (∀ k x, P[k]? = some x → jX1 w T k x (bi k) (bk k) (bL k)) → P[j]? = some x → jX1 w' T' j x (bi j) (bk j) (bL' j)) : JC w' T' tw th sz dp nm sy sp n m pt pk lv pL bi bk bL' Lo Lf Lt rd U no nf nt n4 n6 := by
  obtain ⟨h1, h2, h3, h4, h5, h6, h7, h8, h9, h10, h11, f, h12⟩ := h
  refine ⟨Nat.le_trans h1 D.1, D.ats h2 (Or.inl ⟨by omega, id⟩), h3, D.ats h4 (Or.inl ⟨by omega, id⟩), h5.keep (fun x a b => D.at (by omega) (Or.inl ⟨by omega, id⟩)), h6.kp D id (by omega) (fun _ _ _ => by omega), ?_, h8.kp D (by omega) id id (by omega), h9.kp D (by omega) id id (by omega), h10.kp D (by omega) id id (by omega), h11.kp D (fun x a b => id) (by omega) (by omega), f, D.ats h12 (Or.inl ⟨by omega, id⟩)⟩
  obtain ⟨e, P, hl, hn, h8', he, hP⟩ := h7
  have hP' : ∀ k x, P[k]? = some x → jX1 w' T' k x (bi k) (bk k) (bL' k) := fun k x hx => by
    by_cases e1 : k = j
    · subst e1
      exact hq e P x hl hP hx
    · rw [hp k e1]
      exact (hP k x hx).kp D (fun t b1 b2 => by omega)
  refine ⟨e, P, hl.kp D (by omega) id he (by omega) (fun x hx => ?_), hn, h8', fun y hy => by rw [D.2.2 y (hl.elt hy)]; exact he y hy, hP'⟩
  obtain ⟨k, hk⟩ := List.mem_iff_getElem?.mp hx
  obtain ⟨a, r, nn, f, hq, -⟩ := hP' k x hk
  exact p_elt_of4 hq
theorem st_packet (h : J c w) (p : Int32) : jC c (fL_packet 0 p 66 w) (fD_packet 37 p) := by
  obtain ⟨T, tw, th, sz, dp, nm, sy, sp, n, m, pt, pk, lv, pL, bi, bk, bL, Lo, Lf, Lt, rd, U, no, nf, nt, n4, n6, z, g, hC, hM, hJ, hR⟩ := h
  have ho := hC.2.1
  obtain ⟨e, P, hl, hn, he, hP⟩ := hC.2.2.2.2.2.1
  have h8 := hJ.2.1
  have hW := qW_packet ho hl pk (fun k x hx => by
    obtain ⟨l, a, r, nn, ln, f, hq, -⟩ := hP k x hx
    exact ⟨_, _, l, a, r, nn, ln, _, f, hq⟩) p
  rw [hn] at hW
  have hpk : ∀ k, k < n → g 44 k = Int32.ofNat (pk k) ∧ pk k ≤ 20 := fun k hk => ⟨(h8.2.2 k hk).2.2.2.1, (h8.2.2 k hk).2.2.2.2.1⟩
  unfold fL_packet
  rw [q_obj ho, Option.bind_some]
  have thr : ∀ (w1 : PW) (x : Int32) (A : PX), x ≠ 0 → q_pkc n pk p = x → qT w w1 → A = some (.inl (some (.int x)), w1) → jC c A (fD_packet 37 p) := fun w1 x A hk hs hT hA => jThr rfl hC hM hJ hR hT hk hA (fun w1 q1 => by
    obtain ⟨w2, v, e2, F2, t2, -⟩ := q1.packet n h8.1 h8.2.1 pk hpk p
    have := t2 (by rw [hs]; exact hk)
    rw [hs] at this
    exact ⟨w2, v, e2, F2, this⟩)
  rcases q_pkc_v n pk p with hc | hc | hc
  · obtain ⟨w1, x, t, b, l, a, hx, e1, o1, o1', F1⟩ := hW.2.2 hc
    obtain ⟨hp0, hp20⟩ := q_pkc_0 hc
    generalize hj : p.toInt.toNat = j at *
    have hjn : j < n := by omega
    obtain ⟨l2, a2, r2, nn2, ln2, f2, hq2, hl2, x2, y2, z2, u2⟩ := hP j x hx
    have o2 := hq2.1
    rw [o1] at o2
    injection o2 with o2
    injection o2 with o2
    injection o2 with _ o2
    injection o2 with i1 o2
    injection o2 with i2 o2
    injection o2 with i3 o2
    injection o2 with i4 o2
    injection i1 with i1
    injection i2 with i2
    injection i3 with i3
    injection i4 with i4
    subst i1 i2 i3 i4
    have hne : ∀ y, T y ≠ T x → y ≠ x := fun y hy e => hy (by rw [e])
    have D : qDf (fun _ => False) (fun t => 1000 + 10 * j ≤ t ∧ t < 1000 + 10 * j + 10) T T w w1 := ⟨by rw [F1.1]; exact Nat.le_refl _, fun y hy h1 h2 => F1.2.1 y (fun e1 => by
      rw [e1] at h2
      exact h2 x2.1 ⟨by omega, by omega⟩), fun _ _ => rfl⟩
    have hC1 : JC w1 T tw th sz dp nm sy sp n m pt (fun k => if k = j then pk j + 1 else pk k) lv pL bi bk bL Lo Lf Lt rd U no nf nt n4 n6 := by
      refine hC.p1 (j := j) (by omega) D (fun k hk => ⟨if_neg hk, rfl, rfl⟩) (fun e' P' x' hl' hP' hx' => ?_)
      have ex : x' = x := by
        have g1 := hl.get j x hx
        have g2 := hl'.get j x' hx'
        rw [g1] at g2
        injection g2 with g2
        injection g2 with g2
        injection g2 with g2
        injection g2 with g2
        injection g2 with g2
        exact g2.symm
      subst ex
      rw [if_pos rfl]
      refine ⟨l, a, r2, nn2, ln2, f2, ⟨o1', ?_, hq2.2.2.1.keep ?_ ?_, by omega⟩, fun i => ⟨(hl2 i).1, (hl2 i).2.1, fun y => (hl2 i).2.2 (by omega)⟩, x2, y2, z2, u2⟩
      · rw [F1.2.1 l (hne l (by omega))]; exact hq2.2.1
      · exact F1.2.1 a (hne a (by omega))
      · exact F1.2.1 r2 (hne r2 (by omega))
    refine jOk hC1 (hM.keep (fun y a b => F1.2.1 y (by omega))) (hR.mk (by rw [F1.2.2]; omega) (by rw [F1.2.2]; omega)) (v := Int32.ofNat (pk j + 1)) (by rw [e1]; rfl) (fun w1 q1 => ?_)
    obtain ⟨w2, v, e2, F2, -, t2⟩ := q1.packet n h8.1 h8.2.1 pk hpk p
    obtain ⟨t3, t4⟩ := t2 hc
    rw [hj] at t3 t4
    rw [t3] at e2
    refine ⟨w2, _, _, e2, F2, t4, rfl, hJ.pp (fun u a => by unfold upd; rw [if_neg a]) (fun u a => by rw [ug_ne _ _ _ (by omega), ug_ne _ _ _ (by omega)]) (fun k hk => ?_)⟩
    obtain ⟨a1, a2, a3, a4, a5, a6, a7, a8, a9⟩ := h8.2.2 k hk
    refine ⟨by rw [ug_ne _ _ _ (by decide), ug_ne _ _ _ (by decide)]; exact a1, a2, a3, ?_, ?_, fun i hi => ?_, by rw [ug_ne _ _ _ (by decide), ug_ne _ _ _ (by decide)]; exact a7, a8, fun i hi => by rw [ug_ne _ _ _ (by decide), ug_ne _ _ _ (by decide)]; exact a9 i hi⟩
    · rw [ug_self]
      unfold upd
      by_cases e : k = j
      · rw [if_pos e, if_pos e]
      · rw [if_neg e, if_neg e, ug_ne _ _ _ (by decide)]
        exact a4
    · split <;> omega
    · rw [ug_ne _ _ _ (by decide), ug_self]
      unfold upd
      by_cases e : k = j
      · subst e
        rw [if_pos rfl] at hi
        by_cases e2 : i = pk k
        · subst e2
          rw [if_pos rfl, (hl2 (pk k)).2.2 (Nat.le_refl _)]
          exact ⟨rfl, by omega⟩
        · rw [if_neg (by omega)]
          exact a6 i (by omega)
      · rw [if_neg e] at hi
        have := a5
        rw [if_neg (by omega)]
        exact a6 i hi
  · obtain ⟨w1, e1, T1⟩ := hW.1 hc
    exact thr w1 1 _ (by decide) hc T1 (by rw [e1, lw_x1])
  · obtain ⟨w1, e1, T1⟩ := hW.2.1 hc
    exact thr w1 2 _ (by decide) hc T1 (by rw [e1, lw_x2 (by decide), lw_x1])
end
section
variable {c : Nat} {w w' : PW}
theorem qL.same {e e' : Value} {P P' : List Nat} {a j x x' : Nat} (h : qL w a e P) (h' : qL w a e' P') (hx : P[j]? = some x) (hx' : P'[j]? = some x') : x' = x := by
  have g1 := h.get j x hx
  have g2 := h'.get j x' hx'
  rw [g1] at g2
  injection g2 with g2
  injection g2 with g2
  injection g2 with g2
  injection g2 with g2
  injection g2 with g2
  exact g2.symm
theorem st_byteOf (h : J c w) (p b : Int32) : jC c (fL_byteOf 0 p b 66 w) (fD_byteOf 37 p b) := by
  obtain ⟨T, tw, th, sz, dp, nm, sy, sp, n, m, pt, pk, lv, pL, bi, bk, bL, Lo, Lf, Lt, rd, U, no, nf, nt, n4, n6, z, g, hC, hM, hJ, hR⟩ := h
  have ho := hC.2.1
  obtain ⟨e, P, hl, hn, he, hP⟩ := hC.2.2.2.2.2.1
  have h8 := hJ.2.1
  have hW := qW_byteOf ho hl pk (fun k => (pL k).length) (fun k x hx => by
    obtain ⟨l, a, r, nn, ln, f, hq, hl2, x2, y2, z2, u2⟩ := hP k x hx
    refine ⟨_, _, l, a, r, nn, ln, _, f, hq, rfl, ?_, ?_, ?_, ?_, ?_⟩ <;> (intro e; subst e; omega)) p b
  rw [hn] at hW
  have hpk : ∀ k, k < n → g 44 k = Int32.ofNat (pk k) ∧ pk k ≤ 20 ∧ g 46 k = Int32.ofNat (pL k).length ∧ (pL k).length ≤ 300 := fun k hk => ⟨(h8.2.2 k hk).2.2.2.1, (h8.2.2 k hk).2.2.2.2.1, (h8.2.2 k hk).2.2.2.2.2.2.1, (h8.2.2 k hk).2.2.2.2.2.2.2.1⟩
  unfold fL_byteOf
  rw [q_obj ho, Option.bind_some]
  have thr : ∀ (w1 : PW) (x : Int32) (A : PX), x ≠ 0 → q_boc n pk (fun k => (pL k).length) p b = x → qT w w1 → A = some (.inl (some (.int x)), w1) → jC c A (fD_byteOf 37 p b) := fun w1 x A hk hs hT hA => jThr rfl hC hM hJ hR hT hk hA (fun w1 q1 => by
    obtain ⟨w2, v, e2, F2, t2, -⟩ := q1.byteOf n h8.1 h8.2.1 pk (fun k => (pL k).length) hpk p b
    have := t2 (by rw [hs]; exact hk)
    rw [hs] at this
    exact ⟨w2, v, e2, F2, this⟩)
  rcases q_boc_v n pk (fun k => (pL k).length) p b with hc | hc | hc | hc | hc
  · obtain ⟨w1, x, t, b0, l, a, r, nn, ln, L, f, r', nn', f', hx, e1, hq1, hq1', F1, hr', hnn, hs'⟩ := hW.2.2.2.2 hc
    obtain ⟨hp0, hpk0, hp300⟩ := q_boc_0 hc
    generalize hj : p.toInt.toNat = j at *
    have hjn : j < n := by omega
    obtain ⟨l2, a2, r2, nn2, ln2, f2, hq2, hl2, x2, y2, z2, u2⟩ := hP j x hx
    obtain ⟨i1, i2, i3, i4, i5, i6, i7, i8, i9⟩ := hq1.uniq hq2
    subst i1 i2 i3 i4 i5 i6 i7 i8 i9
    have hlen := hC.1
    have hn300 : nn' ≤ 300 := hq1'.2.2.1.2.2.2.2.2.2.1
    have D : qDf (fun _ => False) (fun t => 1000 + 10 * j ≤ t ∧ t < 1000 + 10 * j + 10) T (fun y => if w.1.length ≤ y then 1003 + 10 * j else T y) w w1 := ⟨F1.1, fun y hy h1 h2 => q_keepF F1 hy (by
      rintro (e1 | e1 | e1) <;> subst e1
      · exact h2 z2.1 ⟨by omega, by omega⟩
      · exact h2 u2.1 ⟨by omega, by omega⟩
      · exact h2 y2.1 ⟨by omega, by omega⟩), fun y hy => if_neg (by omega)⟩
    have tg : ∀ y u, y < w.1.length → T y = u → (if w.1.length ≤ y then 1003 + 10 * j else T y) = u := fun y u hy hu => by rw [if_neg (by omega)]; exact hu
    have hC1 : JC w1 (fun y => if w.1.length ≤ y then 1003 + 10 * j else T y) tw th sz dp nm sy sp n m pt pk (fun k => if k = j then (fun i => if i = pk j - 1 then lv j i + 1 else lv j i) else lv k) (fun k => if k = j then pL j ++ [b] else pL k) bi bk bL Lo Lf Lt rd U no nf nt n4 n6 := by
      refine hC.p1 (j := j) (by omega) D (fun k hk => ⟨rfl, if_neg hk, if_neg hk⟩) (fun e' P' x' hl' hP' hx' => ?_)
      have ex := hl.same hl' hx hx'
      subst ex
      rw [if_pos rfl, if_pos rfl]
      have q1 := q_lt_len hq1.1
      have q2 := q_lt_len hq1.2.1
      have q3 := q_lt_len hq1.2.2.1.o
      have q4 := q_lt_len hq1.2.2.1.d
      refine ⟨l, a, r', nn', _, f', hq1', fun i => ⟨?_, ?_, fun y => ?_⟩, ⟨x2.1, tg _ _ q1 x2.2⟩, ⟨y2.1, tg _ _ q2 y2.2⟩, ⟨z2.1, tg _ _ q3 z2.2⟩, ?_⟩
      · unfold upd
        dsimp only
        by_cases e2 : i = pk j - 1
        · rw [if_pos e2, if_pos e2, e2, (hl2 (pk j - 1)).1]
          exact (Int32.ofNat_add _ 1).symm
        · rw [if_neg e2, if_neg e2]
          exact (hl2 i).1
      · rw [List.length_append]
        have := (hl2 i).2.1
        show (if i = pk j - 1 then lv j i + 1 else lv j i) ≤ (pL j).length + 1
        split <;> omega
      · show (if i = pk j - 1 then lv j i + 1 else lv j i) = 0
        rw [if_neg (by omega)]
        exact (hl2 i).2.2 y
      · rcases hr' with e2 | e2
        · subst e2
          exact ⟨u2.1, tg _ _ q4 u2.2⟩
        · exact ⟨by omega, if_pos e2⟩
    refine jOk hC1 (hM.keep (fun y a b => D.at (by omega) (Or.inl ⟨by omega, id⟩))) (hR.mk F1.2.2 (by omega)) (v := Int32.ofNat ((pL j).length + 1)) (by rw [e1]; rfl) (fun w2 q1 => ?_)
    obtain ⟨w3, v, e2, F2, -, t2⟩ := q1.byteOf n h8.1 h8.2.1 pk (fun k => (pL k).length) hpk p b
    obtain ⟨t3, t4⟩ := t2 hc
    rw [hj] at t3 t4
    rw [t3] at e2
    have b255 := hq1'.2.2.1.b255
    refine ⟨w3, _, _, e2, F2, t4, rfl, hJ.pp (fun u a => by unfold upd; rw [if_neg a]) (fun u a => by rw [ug_ne _ _ _ (by omega), ug_ne _ _ _ (by omega), ug_ne _ _ _ (by omega)]) (fun k hk => ?_)⟩
    obtain ⟨a1, a2, a3, a4, a5, a6, a7, a8, a9⟩ := h8.2.2 k hk
    have hpj := (h8.2.2 j hjn).2.2.2.2.1
    refine ⟨by rw [ug_ne _ _ _ (by decide), ug_ne _ _ _ (by decide), ug_ne _ _ _ (by decide)]; exact a1, a2, a3, by rw [ug_ne _ _ _ (by decide), ug_ne _ _ _ (by decide), ug_ne _ _ _ (by decide)]; exact a4, a5, fun i hi => ?_, ?_, ?_, fun i hi => ?_⟩
    · rw [ug_self]
      unfold upd
      by_cases e : k = j
      · subst e
        rw [if_pos rfl]
        by_cases e3 : i = pk k - 1
        · subst e3
          rw [if_pos (by omega), if_pos rfl, show 20 * k + pk k - 1 = 20 * k + (pk k - 1) by omega, (a6 _ hi).1]
          have := (hl2 (pk k - 1)).2.1
          exact ⟨(Int32.ofNat_add _ 1).symm, by omega⟩
        · rw [if_neg (by omega), if_neg e3, ug_ne _ _ _ (by decide), ug_ne _ _ _ (by decide)]
          exact a6 i hi
      · rw [if_neg (by omega), if_neg e, ug_ne _ _ _ (by decide), ug_ne _ _ _ (by decide)]
        exact a6 i hi
    · rw [ug_ne _ _ _ (by decide), ug_self]
      unfold upd
      by_cases e : k = j
      · subst e
        rw [if_pos rfl, if_pos rfl, List.length_append]
        rfl
      · rw [if_neg e, if_neg e, ug_ne _ _ _ (by decide)]
        exact a7
    · by_cases e : k = j
      · subst e
        rw [if_pos rfl, List.length_append]
        show (pL k).length + 1 ≤ 300
        omega
      · rw [if_neg e]
        exact a8
    · rw [ug_ne _ _ _ (by decide), ug_ne _ _ _ (by decide), ug_self]
      unfold upd
      by_cases e : k = j
      · subst e
        simp only [eq_self_iff_true, if_true] at hi ⊢
        have hi2 : i < (pL k).length + 1 := by rw [List.length_append] at hi; exact hi
        refine ⟨?_, b255 i hi⟩
        by_cases e3 : i = (pL k).length
        · subst e3
          rw [if_pos rfl, List.getElem_append_right (Nat.le_refl _)]
          simp
        · rw [if_neg (by omega), List.getElem_append_left (by omega)]
          exact (a9 i (by omega)).1
      · simp only [e, if_false] at hi ⊢
        rw [if_neg (by omega)]
        exact a9 i hi
  · obtain ⟨w1, e1, T1⟩ := hW.1 hc
    exact thr w1 1 _ (by decide) hc T1 (by rw [e1, lw_x1])
  · obtain ⟨w1, e1, T1⟩ := hW.2.1 hc
    exact thr w1 2 _ (by decide) hc T1 (by rw [e1, lw_x2 (by decide), lw_x1])
  · obtain ⟨w1, e1, T1⟩ := hW.2.2.1 hc
    exact thr w1 3 _ (by decide) hc T1 (by rw [e1, lw_x2 (by decide), lw_x2 (by decide), lw_x1])
  · obtain ⟨w1, e1, T1⟩ := hW.2.2.2.1 hc
    exact thr w1 4 _ (by decide) hc T1 (by rw [e1, lw_x2 (by decide), lw_x2 (by decide), lw_x2 (by decide), lw_x1])
theorem st_boxByte (h : J c w) (p b : Int32) : jC c (fL_boxByte 0 p b 66 w) (fD_boxByte 37 p b) := by
  obtain ⟨T, tw, th, sz, dp, nm, sy, sp, n, m, pt, pk, lv, pL, bi, bk, bL, Lo, Lf, Lt, rd, U, no, nf, nt, n4, n6, z, g, hC, hM, hJ, hR⟩ := h
  have ho := hC.2.1
  obtain ⟨e, P, hl, hn, hm8, he, hP⟩ := hC.2.2.2.2.2.2.1
  have h14 := hJ.2.2.1
  have hW := qW_boxByte ho hl (fun k => (bL k).length) (fun k x hx => by
    obtain ⟨a, r, nn, f, hq, hb, -⟩ := hP k x hx
    exact ⟨_, _, a, r, nn, _, f, hq, hb, rfl⟩) p b
  rw [hn] at hW
  have hpk : ∀ k, k < m → g 50 k = Int32.ofNat (bL k).length ∧ (bL k).length ≤ 40 := fun k hk => ⟨(h14.2 k hk).2.2.2.1, (h14.2 k hk).2.2.2.2.1⟩
  unfold fL_boxByte
  rw [q_obj ho, Option.bind_some]
  have thr : ∀ (w1 : PW) (x : Int32) (A : PX), x ≠ 0 → q_bbc m (fun k => (bL k).length) p b = x → qT w w1 → A = some (.inl (some (.int x)), w1) → jC c A (fD_boxByte 37 p b) := fun w1 x A hk hs hT hA => jThr rfl hC hM hJ hR hT hk hA (fun w1 q1 => by
    obtain ⟨w2, v, e2, F2, t2, -⟩ := q1.boxByte m h14.1 hm8 (fun k => (bL k).length) hpk p b
    have := t2 (by rw [hs]; exact hk)
    rw [hs] at this
    exact ⟨w2, v, e2, F2, this⟩)
  rcases q_bbc_v m (fun k => (bL k).length) p b with hc | hc | hc | hc
  · obtain ⟨w1, x, i0, c0, a, r, nn, L, f, r', nn', f', hx, e1, hq1, hb1, hb1', F1, hr', hnn, hs'⟩ := hW.2.2.2 hc
    obtain ⟨hp0, hp40⟩ := q_bbc_0 hc
    generalize hj : p.toInt.toNat = j at *
    have hjn : j < m := by omega
    obtain ⟨a2, r2, nn2, f2, hq2, hb2, hi2, x2, z2, u2⟩ := hP j x hx
    have o2 := hq2
    rw [hq1] at o2
    injection o2 with o2
    injection o2 with o2
    injection o2 with _ o2
    injection o2 with i1 o2
    injection o2 with i2 o2
    injection o2 with i3 o2
    injection i1 with i1
    injection i2 with i2
    injection i3 with i3
    subst i1 i2 i3
    obtain ⟨i4, i5, i6, i7⟩ := hb1.uniq hb2
    subst i4 i5 i6 i7
    have hlen := hC.1
    have hn40 : nn' ≤ 40 := hb1'.2.2.2.2.2.2.1
    have D : qDf (fun _ => False) (fun t => 2000 + 10 * j ≤ t ∧ t < 2000 + 10 * j + 10) T (fun y => if w.1.length ≤ y then 2002 + 10 * j else T y) w w1 := ⟨F1.1, fun y hy h1 h2 => q_keepF F1 hy (by
      rintro (e1 | e1) <;> subst e1
      · exact h2 z2.1 ⟨by omega, by omega⟩
      · exact h2 u2.1 ⟨by omega, by omega⟩), fun y hy => if_neg (by omega)⟩
    have tg : ∀ y u, y < w.1.length → T y = u → (if w.1.length ≤ y then 2002 + 10 * j else T y) = u := fun y u hy hu => by rw [if_neg (by omega)]; exact hu
    have q1 := q_lt_len hq1
    have q3 := q_lt_len hb1.o
    have q4 := q_lt_len hb1.d
    have hC1 : JC w1 (fun y => if w.1.length ≤ y then 2002 + 10 * j else T y) tw th sz dp nm sy sp n m pt pk lv pL bi bk (fun k => if k = j then bL j ++ [b] else bL k) Lo Lf Lt rd U no nf nt n4 n6 := by
      refine hC.x1 (j := j) (by omega) D (fun k hk => if_neg hk) (fun e' P' x' hl' hP' hx' => ?_)
      have ex := hl.same hl' hx hx'
      subst ex
      rw [if_pos rfl]
      refine ⟨a, r', nn', f', ?_, hb1', hi2, ⟨x2.1, tg _ _ q1 x2.2⟩, ⟨z2.1, tg _ _ q3 z2.2⟩, ?_⟩
      · rw [q_keepF F1 q1 (by rintro (e2 | e2) <;> (have e2' := congrArg T e2; omega))]
        exact hq1
      · rcases hr' with e2 | e2
        · subst e2
          exact ⟨u2.1, tg _ _ q4 u2.2⟩
        · exact ⟨by omega, if_pos e2⟩
    refine jOk hC1 (hM.keep (fun y a b => D.at (by omega) (Or.inl ⟨by omega, id⟩))) (hR.mk F1.2.2 (by omega)) (v := Int32.ofNat ((bL j).length + 1)) (by rw [e1]; rfl) (fun w2 q1 => ?_)
    obtain ⟨w3, v, e2, F2, -, t2⟩ := q1.boxByte m h14.1 hm8 (fun k => (bL k).length) hpk p b
    obtain ⟨t3, t4⟩ := t2 hc
    rw [hj] at t3 t4
    rw [t3] at e2
    have b255 := hb1'.b255
    refine ⟨w3, _, _, e2, F2, t4, rfl, hJ.xx (fun u a => by unfold upd; rw [if_neg a]) (fun u a => by rw [ug_ne _ _ _ (by omega), ug_ne _ _ _ (by omega)]) (fun k hk => ?_)⟩
    obtain ⟨a1, a2, a3, a4, a5, a6⟩ := h14.2 k hk
    refine ⟨by rw [ug_ne _ _ _ (by decide), ug_ne _ _ _ (by decide)]; exact a1, a2, by rw [ug_ne _ _ _ (by decide), ug_ne _ _ _ (by decide)]; exact a3, ?_, ?_, fun i hi => ?_⟩
    · rw [ug_self]
      unfold upd
      by_cases e : k = j
      · subst e
        rw [if_pos rfl, if_pos rfl, List.length_append]
        rfl
      · rw [if_neg e, if_neg e, ug_ne _ _ _ (by decide)]
        exact a4
    · by_cases e : k = j
      · subst e
        rw [if_pos rfl, List.length_append]
        show (bL k).length + 1 ≤ 40
        omega
      · rw [if_neg e]
        exact a5
    · rw [ug_ne _ _ _ (by decide), ug_self]
      unfold upd
      by_cases e : k = j
      · subst e
        simp only [eq_self_iff_true, if_true] at hi ⊢
        have hi2 : i < (bL k).length + 1 := by rw [List.length_append] at hi; exact hi
        refine ⟨?_, b255 i hi⟩
        by_cases e3 : i = (bL k).length
        · subst e3
          rw [if_pos rfl, List.getElem_append_right (Nat.le_refl _)]
          simp
        · rw [if_neg (by omega), List.getElem_append_left (by omega)]
          exact (a6 i (by omega)).1
      · simp only [e, if_false] at hi ⊢
        rw [if_neg (by omega)]
        exact a6 i hi
  · obtain ⟨w1, e1, T1⟩ := hW.1 hc
    exact thr w1 1 _ (by decide) hc T1 (by rw [e1, lw_x1])
  · obtain ⟨w1, e1, T1⟩ := hW.2.1 hc
    exact thr w1 2 _ (by decide) hc T1 (by rw [e1, lw_x2 (by decide), lw_x1])
  · obtain ⟨w1, e1, T1⟩ := hW.2.2.1 hc
    exact thr w1 3 _ (by decide) hc T1 (by rw [e1, lw_x2 (by decide), lw_x2 (by decide), lw_x1])
end
theorem q_cnt_congr {tl tl' : Nat → Int32} (t : Int32) : ∀ (n i : Nat), (∀ j, i ≤ j → j < i + n → tl' j = tl j) → q_cnt tl' t n i = q_cnt tl t n i
  | 0, i, _ => rfl
  | n + 1, i, h => by
    rw [q_cnt, q_cnt, h i (Nat.le_refl _) (by omega), q_cnt_congr t n (i + 1) (fun j a b => h j (by omega) (by omega))]
theorem q_tc_0 {nt : Int} {n : Nat} {t : Int32} (h : q_tc nt n t = 0) : (0 ≤ t.toInt ∧ t.toInt < nt) ∧ n < 40 := by
  unfold q_tc at h
  by_cases a : 0 ≤ t.toInt ∧ t.toInt < nt
  · rw [if_neg (not_not_intro a)] at h
    by_cases b : 40 ≤ n
    · rw [if_pos b] at h; exact absurd h (by decide)
    · exact ⟨a, by omega⟩
  · rw [if_pos a] at h; exact absurd h (by decide)
theorem q_bc_0 {n : Nat} {x : Int32} (h : q_bc n x = 0) : n < 8 := by
  unfold q_bc at h
  by_cases a : q_kd x = true ∧ q_own x = false
  · rw [if_neg (not_not_intro a)] at h
    by_cases b : 8 ≤ n
    · rw [if_pos b] at h; exact absurd h (by decide)
    · omega
  · rw [if_pos a] at h; exact absurd h (by decide)
section
variable {c : Nat} {w w' : PW}
theorem q_snocN {P : List Nat} {y k x : Nat} (h : (P ++ [y])[k]? = some x) : (k < P.length ∧ P[k]? = some x) ∨ (k = P.length ∧ x = y) := by
  by_cases hk : k < P.length
  · rw [List.getElem?_append_left hk] at h
    exact Or.inl ⟨hk, h⟩
  · have h2 := (List.getElem?_eq_some_iff.mp h).1
    rw [List.length_append] at h2
    have h3 : k < P.length + 1 := h2
    have e : k = P.length := by omega
    subst e
    rw [List.getElem?_append_right (Nat.le_refl _)] at h
    simp at h
    exact Or.inr ⟨rfl, h.symm⟩
theorem st_tilePart (h : J c w) (t : Int32) : jC c (fL_tilePart 0 t 66 w) (fD_tilePart 37 t) := by
  obtain ⟨T, tw, th, sz, dp, nm, sy, sp, n, m, pt, pk, lv, pL, bi, bk, bL, Lo, Lf, Lt, rd, U, no, nf, nt, n4, n6, z, g, hC, hM, hJ, hR⟩ := h
  have ho := hC.2.1
  obtain ⟨e, P, hl, hn, he, hP⟩ := hC.2.2.2.2.2.1
  have hQ := hJ.1.1
  have h8 := hJ.2.1
  have hW := qW_tilePart ho hC.2.2.2.2.1 hQ hl (fun y hy => by have := (he y hy).1; omega) (tl := pt) (fun k x hx => by
    obtain ⟨l, a, r, nn, ln, f, hq, -⟩ := hP k x hx
    exact ⟨_, hq.1⟩) t
  rw [hn] at hW
  unfold fL_tilePart
  rw [q_obj ho, Option.bind_some]
  have thr : ∀ (w1 : PW) (x : Int32) (A : PX), x ≠ 0 → q_tc (q_nt tw th sz) n t = x → qT w w1 → A = some (.inl (some (.int x)), w1) → jC c A (fD_tilePart 37 t) := fun w1 x A hk hs hT hA => jThr rfl hC hM hJ hR hT hk hA (fun w1 q1 => by
    obtain ⟨w2, v, e2, F2, t2, -⟩ := q1.tilePart hQ n h8.1 h8.2.1 t
    have := t2 (by rw [hs]; exact hk)
    rw [hs] at this
    exact ⟨w2, v, e2, F2, this⟩)
  rcases q_tc_v (q_nt tw th sz) n t with hc | hc | hc
  · obtain ⟨w1, e', e1, l1, o1, o2, b1, F1, he', hs'⟩ := hW.2.2 hc
    obtain ⟨ht0, hn40⟩ := q_tc_0 hc
    have hnt := hQ.nt.2.2
    have hlen := hC.1
    have l1' : w.1.length + 3 < w1.1.length := q_lt_len b1.d
    have D : qDf (fun x => x = 7) (fun u => u = 7) T (fun x => if x = w.1.length then 1000 + 10 * n else if x = w.1.length + 1 then 1001 + 10 * n else if x = w.1.length + 2 then 1002 + 10 * n else if x = w.1.length + 3 then 1003 + 10 * n else if w.1.length ≤ x then 7 else T x) w w1 := by
      refine ⟨F1.1, fun x hx h1 h2 => q_keepF F1 hx ?_, fun x hx => ?_⟩
      · rintro (q | q)
        · exact h1 (by omega) q
        · have := he x q
          exact h2 this.1 this.2
      · dsimp only
        rw [if_neg (by omega), if_neg (by omega), if_neg (by omega), if_neg (by omega), if_neg (by omega)]
    generalize hT' : (fun x => if x = w.1.length then 1000 + 10 * n else if x = w.1.length + 1 then 1001 + 10 * n else if x = w.1.length + 2 then 1002 + 10 * n else if x = w.1.length + 3 then 1003 + 10 * n else if w.1.length ≤ x then 7 else T x) = T' at D
    have T0 : T' w.1.length = 1000 + 10 * n := by rw [← hT']; exact if_pos rfl
    have T1 : T' (w.1.length + 1) = 1001 + 10 * n := by rw [← hT']; dsimp only; rw [if_neg (by omega), if_pos rfl]
    have T2 : T' (w.1.length + 2) = 1002 + 10 * n := by rw [← hT']; dsimp only; rw [if_neg (by omega), if_neg (by omega), if_pos rfl]
    have T3 : T' (w.1.length + 3) = 1003 + 10 * n := by rw [← hT']; dsimp only; rw [if_neg (by omega), if_neg (by omega), if_neg (by omega), if_pos rfl]
    have T4 : ∀ r, w.1.length + 4 ≤ r → T' r = 7 := fun r hr => by rw [← hT']; dsimp only; rw [if_neg (by omega), if_neg (by omega), if_neg (by omega), if_neg (by omega), if_pos (by omega)]
    have hC1 : JC w1 T' tw th sz dp nm sy sp (n + 1) m (fun k => if k = n then t else pt k) (fun k => if k = n then 0 else pk k) (fun k => if k = n then (fun _ => 0) else lv k) (fun k => if k = n then [] else pL k) bi bk bL Lo Lf Lt rd U no nf nt n4 n6 := by
      obtain ⟨h1, h2, h3, h4, h5, h6, h7, h8', h9, h10, h11, f, h12⟩ := hC
      refine ⟨Nat.le_trans h1 D.1, D.ats h2 (Or.inl (by omega)), h3, D.ats h4 (Or.inl (by omega)), h5.keep (fun x a b => D.at (by omega) (Or.inl (by omega))), ?_, h7.kp D (by omega) (by omega) (fun _ _ _ => by omega), h8'.kp D (by omega) (by omega) (by omega) (by omega), h9.kp D (by omega) (by omega) (by omega) (by omega), h10.kp D (by omega) (by omega) (by omega) (by omega), h11.kp D (fun x a b => by omega) (by omega) (by omega), f, D.ats h12 (Or.inl (by omega))⟩
      refine ⟨e', P ++ [w.1.length], l1, by rw [List.length_append, hn]; rfl, fun y hy => ?_, fun k x hx => ?_⟩
      · rcases he' with q | ⟨r, q, hr⟩
        · rw [q] at hy
          rw [D.2.2 y (hl.elt hy)]
          exact he y hy
        · rw [q] at hy
          injection hy with hy
          rw [hy]
          exact ⟨by omega, T4 r hr⟩
      · rcases q_snocN hx with ⟨hk, hx⟩ | ⟨hk, hx⟩
        · have hkn : k ≠ n := by omega
          have a := hP k x hx
          simp only [hkn, if_false]
          rw [q_cnt_congr (tl := pt) (pt k) k 0 (fun j _ hj => if_neg (by omega))]
          exact a.kp D (fun j a b => by omega)
        · have hkn : k = n := by omega
          subst hkn hx
          simp only [if_true]
          rw [q_cnt_congr (tl := pt) t k 0 (fun j _ hj => if_neg (by omega))]
          exact ⟨w.1.length + 1, w.1.length + 2, w.1.length + 3, 32, fun _ => 0, fun _ => 0, ⟨o1, o2, b1, by omega⟩, fun i => ⟨rfl, Nat.zero_le _, fun _ => rfl⟩, ⟨by omega, T0⟩, ⟨by omega, T1⟩, ⟨by omega, T2⟩, ⟨by omega, T3⟩⟩
    refine jOk hC1 (hM.keep (fun y a b => D.at (by omega) (Or.inl (by omega)))) (hR.mk F1.2.2 (by omega)) (v := Int32.ofNat n) (by rw [e1]; rfl) (fun w2 q1 => ?_)
    obtain ⟨w3, v, e2, F2, -, t2⟩ := q1.tilePart hQ n h8.1 h8.2.1 t
    obtain ⟨t3, t4⟩ := t2 hc
    rw [t3] at e2
    obtain ⟨⟨j1, j1'⟩, ⟨j2, j2', j2''⟩, ⟨j3, j3'⟩, ⟨j4, j4'⟩, ⟨j5, j5'⟩, ⟨j6, j6'⟩, j7, j8, j8'⟩ := hJ
    have hg : ∀ u, (u ≠ 43 ∧ u ≠ 44 ∧ u ≠ 46) → q_tpg g n t u = g u := fun u a => by unfold q_tpg; rw [ug_ne _ _ _ a.2.2, ug_ne _ _ _ a.2.1, ug_ne _ _ _ a.1]
    have g43 : q_tpg g n t 43 = upd (g 43) n t := by unfold q_tpg; rw [ug_ne _ _ _ (by decide), ug_ne _ _ _ (by decide), ug_self]
    have g44 : q_tpg g n t 44 = upd (g 44) n 0 := by unfold q_tpg; rw [ug_ne _ _ _ (by decide), ug_self, ug_ne _ _ _ (by decide)]
    have g46 : q_tpg g n t 46 = upd (g 46) n 0 := by unfold q_tpg; rw [ug_self, ug_ne _ _ _ (by decide), ug_ne _ _ _ (by decide)]
    refine ⟨w3, _, _, e2, F2, t4, rfl, ⟨j1.kg (fun r a b => hg r (by omega)), j1'⟩, ⟨if_pos rfl, by omega, fun k hk => ?_⟩, ⟨j3, j3'.kg (fun r a b => hg r (by omega))⟩, ⟨j4, j4'.kg (hg 52 (by decide))⟩, ⟨j5, j5'.kg (hg 53 (by decide))⟩, ⟨j6.kg (fun r a => hg r (by omega)) (fun i _ => by rw [hg 42 (by decide)]) ⟨rfl, rfl, rfl⟩, j6'⟩, fun j => by rw [hg 39 (by decide), hg 40 (by decide)]; exact j7 j, j8, j8'⟩
    rw [g43, g44, g46, hg 45 (by decide), hg 47 (by decide)]
    unfold upd
    by_cases hkn : k = n
    · subst hkn
      simp only [if_true]
      exact ⟨trivial, ht0.1, by omega, rfl, by omega, fun i hi => by omega, rfl, by simp, fun i hi => by simp at hi⟩
    · simp only [hkn, if_false]
      exact j2'' k (by omega)
  · obtain ⟨w1, e1, T1⟩ := hW.1 hc
    exact thr w1 1 _ (by decide) hc T1 (by rw [e1, lw_x1])
  · obtain ⟨w1, e1, T1⟩ := hW.2.1 hc
    exact thr w1 2 _ (by decide) hc T1 (by rw [e1, lw_x2 (by decide), lw_x1])
theorem st_box (h : J c w) (i x : Int32) (hi : i = 0 ∨ i = 1) : jC c (fL_box 0 i x 66 w) (fD_box 37 i x) := by
  obtain ⟨T, tw, th, sz, dp, nm, sy, sp, n, m, pt, pk, lv, pL, bi, bk, bL, Lo, Lf, Lt, rd, U, no, nf, nt, n4, n6, z, g, hC, hM, hJ, hR⟩ := h
  have ho := hC.2.1
  obtain ⟨e, P, hl, hn, hm8, he, hP⟩ := hC.2.2.2.2.2.2.1
  have h14 := hJ.2.2.1
  have hW := qW_box ho hl (by omega) (fun y hy => by have := (he y hy).1; omega) i x hi
  rw [hn] at hW
  unfold fL_box
  rw [q_obj ho, Option.bind_some]
  have thr : ∀ (w1 : PW) (y : Int32) (A : PX), y ≠ 0 → q_bc m x = y → qT w w1 → A = some (.inl (some (.int y)), w1) → jC c A (fD_box 37 i x) := fun w1 y A hk hs hT hA => jThr rfl hC hM hJ hR hT hk hA (fun w1 q1 => by
    obtain ⟨w2, v, e2, F2, t2, -⟩ := q1.box m h14.1 hm8 i x hi
    have := t2 (by rw [hs]; exact hk)
    rw [hs] at this
    exact ⟨w2, v, e2, F2, this⟩)
  rcases q_bc_v m x with hc | hc | hc
  · obtain ⟨w1, e', e1, l1, o1, b1, F1, he', hs'⟩ := hW.2.2 hc
    have hm7 := q_bc_0 hc
    have hlen := hC.1
    have l1' : w.1.length + 2 < w1.1.length := q_lt_len b1.d
    have D : qDf (fun x => x = 8) (fun u => u = 8) T (fun x => if x = w.1.length then 2000 + 10 * m else if x = w.1.length + 1 then 2001 + 10 * m else if x = w.1.length + 2 then 2002 + 10 * m else if w.1.length ≤ x then 8 else T x) w w1 := by
      refine ⟨F1.1, fun x hx h1 h2 => q_keepF F1 hx ?_, fun x hx => ?_⟩
      · rintro (q | q)
        · exact h1 (by omega) q
        · have := he x q
          exact h2 this.1 this.2
      · dsimp only
        rw [if_neg (by omega), if_neg (by omega), if_neg (by omega), if_neg (by omega)]
    generalize hT' : (fun x => if x = w.1.length then 2000 + 10 * m else if x = w.1.length + 1 then 2001 + 10 * m else if x = w.1.length + 2 then 2002 + 10 * m else if w.1.length ≤ x then 8 else T x) = T' at D
    have T0 : T' w.1.length = 2000 + 10 * m := by rw [← hT']; exact if_pos rfl
    have T1 : T' (w.1.length + 1) = 2001 + 10 * m := by rw [← hT']; dsimp only; rw [if_neg (by omega), if_pos rfl]
    have T2 : T' (w.1.length + 2) = 2002 + 10 * m := by rw [← hT']; dsimp only; rw [if_neg (by omega), if_neg (by omega), if_pos rfl]
    have T4 : ∀ r, w.1.length + 3 ≤ r → T' r = 8 := fun r hr => by rw [← hT']; dsimp only; rw [if_neg (by omega), if_neg (by omega), if_neg (by omega), if_pos (by omega)]
    have hC1 : JC w1 T' tw th sz dp nm sy sp n (m + 1) pt pk lv pL (fun k => if k = m then i else bi k) (fun k => if k = m then x else bk k) (fun k => if k = m then [] else bL k) Lo Lf Lt rd U no nf nt n4 n6 := by
      obtain ⟨h1, h2, h3, h4, h5, h6, h7, h8', h9, h10, h11, f, h12⟩ := hC
      refine ⟨Nat.le_trans h1 D.1, D.ats h2 (Or.inl (by omega)), h3, D.ats h4 (Or.inl (by omega)), h5.keep (fun x a b => D.at (by omega) (Or.inl (by omega))), h6.kp D (by omega) (by omega) (fun _ _ _ => by omega), ?_, h8'.kp D (by omega) (by omega) (by omega) (by omega), h9.kp D (by omega) (by omega) (by omega) (by omega), h10.kp D (by omega) (by omega) (by omega) (by omega), h11.kp D (fun x a b => by omega) (by omega) (by omega), f, D.ats h12 (Or.inl (by omega))⟩
      refine ⟨e', P ++ [w.1.length], l1, by rw [List.length_append, hn]; rfl, by omega, fun y hy => ?_, fun k y hy => ?_⟩
      · rcases he' with q | ⟨r, q, hr⟩
        · rw [q] at hy
          rw [D.2.2 y (hl.elt hy)]
          exact he y hy
        · rw [q] at hy
          injection hy with hy
          rw [hy]
          exact ⟨by omega, T4 r hr⟩
      · rcases q_snocN hy with ⟨hk, hy⟩ | ⟨hk, hy⟩
        · have hkn : k ≠ m := by omega
          have a := hP k y hy
          simp only [hkn, if_false]
          exact a.kp D (fun j a b => by omega)
        · have hkn : k = m := by omega
          subst hkn hy
          simp only [if_true]
          exact ⟨w.1.length + 1, w.1.length + 2, 32, fun _ => 0, o1, b1, hi, ⟨by omega, T0⟩, ⟨by omega, T1⟩, ⟨by omega, T2⟩⟩
    refine jOk hC1 (hM.keep (fun y a b => D.at (by omega) (Or.inl (by omega)))) (hR.mk F1.2.2 (by omega)) (v := Int32.ofNat m) (by rw [e1]; rfl) (fun w2 q1 => ?_)
    obtain ⟨w3, v, e2, F2, -, t2⟩ := q1.box m h14.1 hm8 i x hi
    obtain ⟨t3, t4⟩ := t2 hc
    rw [t3] at e2
    obtain ⟨⟨j1, j1'⟩, ⟨j2, j2', j2''⟩, ⟨j3, j3'⟩, ⟨j4, j4'⟩, ⟨j5, j5'⟩, ⟨j6, j6'⟩, j7, j8, j8'⟩ := hJ
    have hg : ∀ u, (u ≠ 48 ∧ u ≠ 49 ∧ u ≠ 50) → q_bxg g m i x u = g u := fun u a => by unfold q_bxg; rw [ug_ne _ _ _ a.2.2, ug_ne _ _ _ a.2.1, ug_ne _ _ _ a.1]
    have g48 : q_bxg g m i x 48 = upd (g 48) m i := by unfold q_bxg; rw [ug_ne _ _ _ (by decide), ug_ne _ _ _ (by decide), ug_self]
    have g49 : q_bxg g m i x 49 = upd (g 49) m x := by unfold q_bxg; rw [ug_ne _ _ _ (by decide), ug_self, ug_ne _ _ _ (by decide)]
    have g50 : q_bxg g m i x 50 = upd (g 50) m 0 := by unfold q_bxg; rw [ug_self, ug_ne _ _ _ (by decide), ug_ne _ _ _ (by decide)]
    refine ⟨w3, _, _, e2, F2, t4, rfl, ⟨j1.kg (fun r a b => hg r (by omega)), j1'⟩, ⟨j2, j2', j2''.kg (fun r a b => hg r (by omega))⟩, ⟨if_pos rfl, fun k hk => ?_⟩, ⟨j4, j4'.kg (hg 52 (by decide))⟩, ⟨j5, j5'.kg (hg 53 (by decide))⟩, ⟨j6.kg (fun r a => hg r (by omega)) (fun i _ => by rw [hg 42 (by decide)]) ⟨rfl, rfl, rfl⟩, j6'⟩, fun j => by rw [hg 39 (by decide), hg 40 (by decide)]; exact j7 j, j8, j8'⟩
    rw [g48, g49, g50, hg 51 (by decide)]
    unfold upd
    by_cases hkn : k = m
    · subst hkn
      simp only [if_true]
      exact ⟨trivial, hi, trivial, rfl, by simp, fun i hi => by simp at hi⟩
    · simp only [hkn, if_false]
      exact j3' k (by omega)
  · obtain ⟨w1, e1, T1⟩ := hW.1 hc
    exact thr w1 1 _ (by decide) hc T1 (by rw [e1, lw_x1])
  · obtain ⟨w1, e1, T1⟩ := hW.2.1 hc
    exact thr w1 2 _ (by decide) hc T1 (by rw [e1, lw_x2 (by decide), lw_x1])
end
section
variable {c : Nat} {w w' : PW}
theorem st_write (h : J c w) : (∃ fs, p_obj w 0 0 = some fs) ∧ jV c (fW_write 0 w) (fD_write 37) := by
  obtain ⟨T, tw, th, sz, dp, nm, sy, sp, n, m, pt, pk, lv, pL, bi, bk, bL, Lo, Lf, Lt, rd, U, no, nf, nt, n4, n6, z, g, hC, hM, hJ, hR⟩ := h
  have hC0 := hC
  have hJ0 := hJ
  obtain ⟨h1, h2, h3, h4, h5, h6, h7, h8, h9, h10, h11, f66, h12⟩ := hC
  obtain ⟨⟨j1, j1'⟩, ⟨j2, j2', j2''⟩, ⟨j3, j3'⟩, ⟨j4, j4'⟩, ⟨j5, j5'⟩, ⟨j6, j6'⟩, j7, j8, j8'⟩ := hJ
  obtain ⟨e7, P, hl7, hn, he7, hP⟩ := h6
  obtain ⟨e8, Q, hl8, hm, hm8, he8, hQ⟩ := h7
  obtain ⟨ro, fo, hbo, hro, hto⟩ := h8
  have sP : ∀ k, ∃ y : Nat × Nat × Nat × Nat × (Nat → Int32) × (Nat → Int32), ∀ x, P[k]? = some x → qP w x (pt k) (Int32.ofNat (q_cnt pt (pt k) k 0)) y.1 y.2.1 y.2.2.1 y.2.2.2.1 (pk k) y.2.2.2.2.1 (pL k) y.2.2.2.2.2 ∧ (x ≠ 10 ∧ x ≠ ro) ∧ (y.1 ≠ 10 ∧ y.1 ≠ ro) ∧ (y.2.1 ≠ 10 ∧ y.2.1 ≠ ro) ∧ (y.2.2.1 ≠ 10 ∧ y.2.2.1 ≠ ro) ∧ ∀ i, y.2.2.2.2.1 i = Int32.ofNat (lv k i) ∧ lv k i ≤ 300 := by
    intro k
    cases hk : P[k]? with
    | none => exact ⟨(0, 0, 0, 0, fun _ => 0, fun _ => 0), fun x hx => by cases hx⟩
    | some x0 =>
      obtain ⟨l, a, r, nn, ln, f, hq, hl2, x2, y2, z2, u2⟩ := hP k x0 hk
      refine ⟨(l, a, r, nn, ln, f), fun x hx => ?_⟩
      injection hx with hx
      subst hx
      have hL := hq.2.2.1.2.2.2.1
      have nr : ∀ y, 67 ≤ y → T y ≠ 10 → y ≠ 10 ∧ y ≠ ro := fun y a b => ⟨by omega, fun e => by
        subst e
        exact b (hto a)⟩
      exact ⟨hq, nr x0 x2.1 (fun q => by have := x2.2; omega), nr l y2.1 (fun q => by have := y2.2; omega), nr a z2.1 (fun q => by have := z2.2; omega), nr r u2.1 (fun q => by have := u2.2; omega), fun i => ⟨(hl2 i).1, by have := (hl2 i).2.1; omega⟩⟩
  obtain ⟨F, hF⟩ := Classical.skolem.mp sP
  have sQ : ∀ k, ∃ y : Nat × Nat × Nat × (Nat → Int32), ∀ x, Q[k]? = some x → w.1[x]? = some (.inr (4, [.int (bi k), .int (bk k), .ref y.1])) ∧ qB w y.1 y.2.1 40 y.2.2.1 (bL k) y.2.2.2 ∧ (x ≠ 10 ∧ x ≠ ro) ∧ (y.1 ≠ 10 ∧ y.1 ≠ ro) ∧ (y.2.1 ≠ 10 ∧ y.2.1 ≠ ro) := by
    intro k
    cases hk : Q[k]? with
    | none => exact ⟨(0, 0, 0, fun _ => 0), fun x hx => by cases hx⟩
    | some x0 =>
      obtain ⟨a, r, nn, f, hq, hb, hi2, x2, z2, u2⟩ := hQ k x0 hk
      refine ⟨(a, r, nn, f), fun x hx => ?_⟩
      injection hx with hx
      subst hx
      have nr : ∀ y, 67 ≤ y → T y ≠ 10 → y ≠ 10 ∧ y ≠ ro := fun y a b => ⟨by omega, fun e => by
        subst e
        exact b (hto a)⟩
      exact ⟨hq, hb, nr x0 x2.1 (fun q => by have := x2.2; omega), nr a z2.1 (fun q => by have := z2.2; omega), nr r u2.1 (fun q => by have := u2.2; omega)⟩
  obtain ⟨G, hG⟩ := Classical.skolem.mp sQ
  have nr : ∀ (e : Value) (a : Nat), a ≠ 10 → (∀ y : Nat, .ref y = e → 67 ≤ y ∧ T y = a) → ∀ y : Nat, .ref y = e → y ≠ 10 ∧ y ≠ ro := fun e a ha he y hy => ⟨by have := (he y hy).1; omega, fun q => by
    subst q
    have h1 := he _ hy
    have h2 := hto h1.1
    omega⟩
  have bn := j1.2.2.2.2.1
  obtain ⟨w1, e1, w0, F0, V1⟩ := qW_write (pt := pt) (pb := fun k => Int32.ofNat (q_cnt pt (pt k) k 0)) (pl := fun k => (F k).1) (pa := fun k => (F k).2.1) (pr := fun k => (F k).2.2.1) (pn := fun k => (F k).2.2.2.1) (pk := pk) (ln := fun k => (F k).2.2.2.2.1) (lv := lv) (pL := pL) (pf := fun k => (F k).2.2.2.2.2) (bi := bi) (bk := bk) (ba := fun k => (G k).1) (br := fun k => (G k).2.1) (bn := fun k => (G k).2.2.1) (bL := bL) (bf := fun k => (G k).2.2.2) h2 h4 hbo h5 (by omega) (by omega) (by omega) hl7 (nr e7 7 (by omega) he7) (fun k x hx => hF k x hx) hl8 (nr e8 8 (by omega) he8) (fun k x hx => hG k x hx) (by omega)
  rw [hn, hm] at e1 V1
  obtain ⟨⟨r', n', f', b1, F1, hr', hn', hs'⟩, -⟩ := V1
  have F01 : qF (fun x => x = 10 ∨ x = ro) w w1 := (F0.fr.mono (fun x _ e => Or.inl e)).tr F1 (fun x _ e => e)
  have hr2 : r' = ro ∨ w.1.length ≤ r' := by rw [← F0.1]; exact hr'
  obtain ⟨T', D, hB1⟩ := jB.mv (T := T) (by omega) hbo hro hto F01 b1 hr2 h1
  have hM1 : qM w1 z g := hM.keep (fun y a b => D.at (by omega) (Or.inl (by omega)))
  obtain ⟨w2, z', g', e2, q2, F2, t1, t2, t3, t4, t5⟩ := hM1.write j1 j2 j2'' j2' (pb := fun k => Int32.ofNat (q_cnt pt (pt k) k 0)) (fun j _ => rfl) j3 j3' hm8 j1'
  refine ⟨⟨_, q_obj h2⟩, _, w1, w2, e1, ⟨_, hM1.obj⟩, e2, T', tw, th, sz, dp, nm, sy, sp, n, m, pt, pk, lv, pL, bi, bk, bL, _, Lf, Lt, rd, U, n', nf, nt, n4, n6, z', g', (hC0.b10 D hB1).kI F2, q2, ⟨⟨j1.kg (fun r a b => t2 r (by omega)), j1'⟩, ⟨by rw [t1 8 (by decide) (by decide), j2], j2', j2''.kg (fun r a b => t2 r (by omega))⟩, ⟨by rw [t1 14 (by decide) (by decide), j3], j3'.kg (fun r a b => t2 r (by omega))⟩, ⟨t4, t5⟩, ⟨by rw [t1 22 (by decide) (by decide), j5], j5'.kg (t2 53 (by decide))⟩, ⟨j6.kg (fun r a => t2 r (by omega)) (fun i _ => by rw [t2 42 (by decide)]) ⟨t1 25 (by decide) (by decide), t1 27 (by decide) (by decide), t1 30 (by decide) (by decide)⟩, j6'⟩, fun j => by rw [t2 39 (by decide), t2 40 (by decide)]; exact j7 j, by rw [t1 1 (by decide) (by decide), j8], by rw [t1 2 (by decide) (by decide), j8']⟩, hR.mk ?_ ?_⟩
  · rw [F2.2.1]
    exact F01.2.2
  · rw [F2.2.1]
    rw [F0.2.2] at hs'
    omega
theorem q_rst_g (nm : Nat → Int32) (j : Nat) : q_rst nm 7 4 j = if j = 0 then 0 else if j = 1 then 1 else if j = 2 then 5 else if j = 3 then 4 else if j = 4 then 1 else if j = 5 then 8 else if j = 6 then 2 else nm j := by
  have : q_rst nm 7 4 = upd (upd (upd (upd (upd (upd (upd nm 0 0) 1 1) 2 5) 3 4) 4 1) 5 8) 6 2 := rfl
  rw [this]
  unfold upd
  grind
theorem q_all8_g (dp : Nat → Int32) (j : Nat) : q_all8 dp 4 0 j = if j < 4 then 8 else dp j := by
  have : q_all8 dp 4 0 = upd (upd (upd (upd dp 0 8) 1 8) 2 8) 3 8 := rfl
  rw [this]
  unfold upd
  grind
theorem qR.clear {tw th : Int32} {sz dp nm sy sp sy' sp' : Nat → Int32} {g g' : Nat → Nat → Int32} (h : qR tw th sz dp nm sy sp g) (hg : q_bgn g g' tw th 0) (hs : ∀ j, j < 125 → sy' j = (if j = 0 then 1 else 0) ∧ sp' j = (if j = 0 then 1 else 0)) : qR tw th (upd (upd (upd sz 0 tw) 1 th) 2 1) (q_all8 dp 4 0) (q_rst nm 7 4) sy' sp' g' := by
  obtain ⟨-, -, -, r38, ⟨b0, b1, b2, b3, b4, b5, b6, b7, b8, b9⟩, -⟩ := h
  obtain ⟨g1, g2, g3, g4, g5, g6⟩ := hg
  refine ⟨⟨?_, ?_, ?_, ?_, ?_⟩, fun i hi => ?_, fun s hs' => ?_, fun s k hs' h4 h10 => ?_, ?_, ?_⟩
  · rw [g2]; rfl
  · rw [g2]; rfl
  · rw [g2]; rfl
  · rw [g2]; rfl
  · rw [g2]; rfl
  · rw [q_all8_g, if_pos hi, g3]
    simp [hi]
  · rw [g4, g5, (hs s hs').1, (hs s hs').2]
    simp [hs']
  · rw [q_rst_g, g6]
    by_cases h0 : s = 0
    · subst h0
      have : k = 4 ∨ k = 5 ∨ k = 6 ∨ k = 7 ∨ k = 8 ∨ k = 9 ∨ k = 10 := by omega
      rcases this with e | e | e | e | e | e | e <;> subst e <;> rfl
    · have h7 : ∀ j, j ≤ 6 → ¬ 7 * s + k - 4 = j := fun j hj => by omega
      have h11 : ∀ j, j ≤ 10 → ¬ 11 * s + k = 11 * 0 + j := fun j hj => by omega
      rw [if_neg (h7 0 (by omega)), if_neg (h7 1 (by omega)), if_neg (h7 2 (by omega)), if_neg (h7 3 (by omega)), if_neg (h7 4 (by omega)), if_neg (h7 5 (by omega)), if_neg (h7 6 (by omega)), if_neg (h11 4 (by omega)), if_neg (h11 5 (by omega)), if_neg (h11 6 (by omega)), if_neg (h11 7 (by omega)), if_neg (h11 8 (by omega)), if_neg (h11 9 (by omega)), if_neg (h11 10 (by omega))]
      exact r38 s k hs' h4 h10
  · show 1 ≤ tw.toInt ∧ tw.toInt ≤ 2000 ∧ 1 ≤ th.toInt ∧ th.toInt ≤ 2000 ∧ 1 ≤ (1 : Int32).toInt ∧ (1 : Int32).toInt ≤ 4 ∧ 1 ≤ tw.toInt ∧ tw.toInt ≤ 2000 ∧ 1 ≤ th.toInt ∧ th.toInt ≤ 2000
    have e1 : (1 : Int32).toInt = 1 := rfl
    omega
  · show q_mi tw.toInt tw.toInt * q_mi th.toInt th.toInt ≤ 24
    rw [q_mi_self b6, q_mi_self b8]
    decide
theorem st_clear (h : J c w) : (∃ fs, p_obj w 0 0 = some fs) ∧ ∃ w1 w2, fW_clear 0 w = some (.inl none, w1) ∧ (∃ fs, p_obj w1 37 10 = some fs) ∧ fD_clear 37 w1 = some (.inl none, w2) ∧ J (c + 1) w2 := by
  obtain ⟨T, tw, th, sz, dp, nm, sy, sp, n, m, pt, pk, lv, pL, bi, bk, bL, Lo, Lf, Lt, rd, U, no, nf, nt, n4, n6, z, g, hC, hM, hJ, hR⟩ := h
  obtain ⟨h1, h2, h3, h4, h5, h6, h7, h8, h9, h10, h11, f66, h12⟩ := hC
  obtain ⟨⟨j1, j1'⟩, ⟨j2, j2', j2''⟩, ⟨j3, j3'⟩, ⟨j4, j4'⟩, ⟨j5, j5'⟩, ⟨j6, j6'⟩, j7, j8, j8'⟩ := hJ
  obtain ⟨e7, P, hl7, hn, he7, hP⟩ := h6
  obtain ⟨e8, Q, hl8, hm, hm8, he8, hQ⟩ := h7
  obtain ⟨ro, fo, hbo, hro, hto⟩ := h8
  obtain ⟨rf, ff, hbf, hrf, htf⟩ := h9
  obtain ⟨rt, ft, hbt, hrt, htt⟩ := h10
  obtain ⟨tr, hr', szr, dpr, nmr, syr, spr, co, fr, en, pa, he, r4, r6, f4, f6, ml, ct, hs', hR', t4, t6, hml, hct, hz⟩ := h11
  have d4 := hR'.2.2.2.2.2.1
  have d6 := hR'.2.2.2.2.2.2.1
  have hD : qD ro rf rt r4 r6 e7 e8 := by
    have ne : ∀ (x y a b u v : Nat), a ≠ b → (x = u ∨ 67 ≤ x) → (y = v ∨ 67 ≤ y) → u < 67 → v < 67 → u ≠ v → (67 ≤ x → T x = a) → (67 ≤ y → T y = b) → x ≠ y := fun x y a b u v hab hx hy hu hv huv tx ty e => by
      subst e
      rcases hx with p | p
      · rcases hy with q | q
        · omega
        · omega
      · have := tx p
        have := ty p
        omega
    have el : ∀ (x a u y b : Nat), a ≠ b → (67 ≤ x → T x = a) → (67 ≤ y ∧ T y = b) → y ≠ x := fun x a u y b hab tx hy e => by
      subst e
      have := tx hy.1
      omega
    refine ⟨⟨hro, hrf, hrt, d4, d6⟩, ⟨ne ro rf 10 12 11 13 (by decide) hro hrf (by decide) (by decide) (by decide) hto htf, ne ro rt 10 14 11 15 (by decide) hro hrt (by decide) (by decide) (by decide) hto htt, ne ro r4 10 23 11 24 (by decide) hro d4 (by decide) (by decide) (by decide) hto t4, ne ro r6 10 25 11 26 (by decide) hro d6 (by decide) (by decide) (by decide) hto t6, ne rf rt 12 14 13 15 (by decide) hrf hrt (by decide) (by decide) (by decide) htf htt, ne rf r4 12 23 13 24 (by decide) hrf d4 (by decide) (by decide) (by decide) htf t4, ne rf r6 12 25 13 26 (by decide) hrf d6 (by decide) (by decide) (by decide) htf t6, ne rt r4 14 23 15 24 (by decide) hrt d4 (by decide) (by decide) (by decide) htt t4, ne rt r6 14 25 15 26 (by decide) hrt d6 (by decide) (by decide) (by decide) htt t6, hR'.2.2.2.2.2.2.2⟩, fun y hy => ⟨(he7 y hy).1, el ro 10 11 y 7 (by decide) hto (he7 y hy), el rf 12 13 y 7 (by decide) htf (he7 y hy), el rt 14 15 y 7 (by decide) htt (he7 y hy), el r4 23 24 y 7 (by decide) t4 (he7 y hy), el r6 25 26 y 7 (by decide) t6 (he7 y hy)⟩, fun y hy => ⟨(he8 y hy).1, el ro 10 11 y 8 (by decide) hto (he8 y hy), el rf 12 13 y 8 (by decide) htf (he8 y hy), el rt 14 15 y 8 (by decide) htt (he8 y hy), el r4 23 24 y 8 (by decide) t4 (he8 y hy), el r6 25 26 y 8 (by decide) t6 (he8 y hy)⟩, fun y hy hy8 => ?_⟩
    have a := (he7 y hy).2
    have b := (he8 y hy8).2
    omega
  have hA : qA0 w rd tw th sz dp nm sy sp e7 e8 P Q ro no rf nf rt nt Lo Lf Lt fo ff ft tr hr' szr dpr nmr syr spr co fr en (Int32.ofNat ml) (Int32.ofNat ct) pa he r4 n4 r6 n6 (uA U) (uB U) f4 f6 := ⟨h2, h5, hl7, hl8, h4, hbo, hbf, hbt, hs', hR', hD⟩
  obtain ⟨w1, sy', sp', syr', spr', pa', e1, A1, s1, K1, c1, l1⟩ := qW_clear hA
  have row : ∀ x, x < 67 → ∀ y : Nat, .ref y = e7 ∨ .ref y = e8 → x ≠ y := fun x hx y hy => by
    rcases hy with q | q
    · have := (he7 y q).1; omega
    · have := (he8 y q).1; omega
  have hM1 : qM w1 z g := hM.keep (fun u u1 u2 => K1 u u1 (row u (by omega)))
  obtain ⟨a1, a2, a3, a4, a5, a6, a7, a8, a9, a10, a11⟩ := A1
  obtain ⟨w2, z', g', e2, q2, B2, z2, F2⟩ := hM1.clear
  rw [j8, j8'] at B2
  have hC1 : JC w1 T tw th (upd (upd (upd sz 0 tw) 1 th) 2 1) (q_all8 dp 4 0) (q_rst nm 7 4) sy' sp' 0 0 pt pk lv pL bi bk bL [] [] [] 0 [] no nf nt n4 n6 := by
    refine ⟨by rw [l1]; exact h1, a1, Or.inl rfl, a5, a2, ⟨e7, [], a3, rfl, he7, fun k x hx => by cases hx⟩, ⟨e8, [], a4, rfl, by omega, he8, fun k x hx => by cases hx⟩, ⟨ro, fo, a6, hro, hto⟩, ⟨rf, ff, a7, hrf, htf⟩, ⟨rt, ft, a8, hrt, htt⟩, ⟨tr, hr', szr, dpr, nmr, syr', spr', _, _, _, pa', he, r4, r6, f4, f6, ml, 0, a9, a10, t4, t6, hml, by omega, fun y => absurd y (by decide)⟩, f66, ?_⟩
    rw [K1 66 (by omega) (row 66 (by omega))]
    exact h12
  have z1 : ∀ k, (k = 0 ∨ k = 8 ∨ k = 14 ∨ k = 20 ∨ k = 22 ∨ k = 25 ∨ k = 27 ∨ k = 30) → z' k = 0 := fun k hk => by rw [z2 k, if_pos hk]
  refine ⟨⟨_, q_obj h2⟩, w1, w2, e1, ⟨_, hM1.obj⟩, e2, T, tw, th, _, _, _, sy', sp', 0, 0, pt, pk, lv, pL, bi, bk, bL, [], [], [], 0, [], no, nf, nt, n4, n6, z', g', hC1.kI F2, q2, ⟨⟨j1.clear B2 s1, fun i hi => by rw [q_all8_g, if_pos hi]; decide⟩, ⟨z1 8 (by decide), by omega, fun k hk => by omega⟩, ⟨z1 14 (by decide), fun k hk => by omega⟩, ⟨z1 20 (by decide), fun i hi => by cases hi⟩, ⟨z1 22 (by decide), fun i hi => by cases hi⟩, ⟨⟨(fun i hi => by cases hi), ⟨z1 27 (by decide), fun i hi => by cases hi⟩, Or.inl (z1 25 (by decide)), 0, z1 30 (by decide), by omega, fun y => by rw [z1 25 (by decide)] at y; exact absurd y (by decide)⟩, (fun q hq => by cases hq), Nat.zero_le _⟩, fun j => ⟨?_, ?_⟩, by rw [z2 1, if_neg (by decide), j8], by rw [z2 2, if_neg (by decide), j8']⟩, hR.mk ?_ ?_⟩
  · rw [B2.2.2.2.1 j]
    split
    · split
      · exact Or.inr rfl
      · exact Or.inl rfl
    · exact (j7 j).1
  · rw [B2.2.2.2.2.1 j]
    split
    · split
      · exact Or.inr rfl
      · exact Or.inl rfl
    · exact (j7 j).2
  · rw [F2.2.1, c1]; omega
  · rw [F2.2.1, c1]; omega
end
theorem J0_of {w : PW} {x y : Int32} (hx : 1 ≤ x.toInt ∧ x.toInt ≤ 2000) (hy : 1 ≤ y.toInt ∧ y.toInt ≤ 2000) (h : q_st0 w x y) : J 0 w := by
  have h0' := h
  obtain ⟨l, c1, c2, h0, ⟨nm, sy, sp, hs, hnm, hsy⟩, h7, h8, h9, hb, hf, ht, hr, h22, hn4, hn6, h27, h28, h29, h34, h35, h36, ⟨z, g, hM, hg, hz⟩, h66⟩ := h
  subst hnm
  have hN : ∀ y : Nat, ¬ Value.ref y = .retAddr 3 := fun y hy => by cases hy
  have hRd : qRd w (-1) 0 0 (Int32.ofNat 0) (Int32.ofNat 0) (fun _ _ => 0) 0 24 8 26 8 (uA []) (uB []) (fun _ => 0) (fun _ => 0) := by
    refine ⟨h22, hn4, hn6, h27, ⟨h28, fun k k1 k2 => ?_⟩, Or.inl rfl, Or.inl rfl, by decide⟩
    by_cases e34 : k = 34
    · subst e34; exact h34
    · by_cases e35 : k = 35
      · subst e35; exact h35
      · by_cases e36 : k = 36
        · subst e36; exact h36
        · unfold rT rL
          rw [if_neg e34, if_neg e35, if_neg e36]
          exact h29 k k1 (by omega)
  have hQ := q_st0_R (w := w) hx hy hg hsy
  have zz : ∀ k, k ≠ 1 → k ≠ 2 → z k = 0 := fun k a b => by rw [hz k, if_neg a, if_neg b]
  refine ⟨fun _ => 0, x, y, _, _, _, sy, sp, 0, 0, fun _ => 0, fun _ => 0, fun _ _ => 0, fun _ => [], fun _ => 0, fun _ => 0, fun _ => [], [], [], [], 0, [], 32, 32, 32, 8, 8, z, g, ⟨by omega, h0, Or.inl rfl, h9, hs, ⟨.retAddr 3, [], ⟨0, h7, by simp, by simp, Or.inl ⟨rfl, rfl⟩⟩, rfl, fun y hy => absurd hy (hN y), fun k x hx => by cases hx⟩, ⟨.retAddr 3, [], ⟨0, h8, by simp, by simp, Or.inl ⟨rfl, rfl⟩⟩, rfl, by omega, fun y hy => absurd hy (hN y), fun k x hx => by cases hx⟩, ⟨11, fun _ => 0, hb, Or.inl rfl, fun y => by omega⟩, ⟨13, fun _ => 0, hf, Or.inl rfl, fun y => by omega⟩, ⟨15, fun _ => 0, ht, Or.inl rfl, fun y => by omega⟩, ⟨1, 1, fun _ => 0, fun _ => 0, fun _ => 0, fun _ => 0, fun _ => 0, -1, 0, 0, fun _ _ => 0, 0, 24, 26, fun _ => 0, fun _ => 0, 0, 0, hr, hRd, fun y => by omega, fun y => by omega, by omega, by omega, fun y => absurd y (by decide)⟩, _, h66⟩, hM, ⟨⟨hQ, fun i hi => by rw [q_all8_at, if_pos hi]; decide⟩, ⟨zz 8 (by decide) (by decide), by omega, fun k hk => by omega⟩, ⟨zz 14 (by decide) (by decide), fun k hk => by omega⟩, ⟨zz 20 (by decide) (by decide), fun i hi => by cases hi⟩, ⟨zz 22 (by decide) (by decide), fun i hi => by cases hi⟩, ⟨⟨(fun i hi => by cases hi), ⟨zz 27 (by decide) (by decide), fun i hi => by cases hi⟩, Or.inl (zz 25 (by decide) (by decide)), 0, zz 30 (by decide) (by decide), by omega, fun y => by rw [zz 25 (by decide) (by decide)] at y; exact absurd y (by decide)⟩, (fun q hq => by cases hq), Nat.zero_le _⟩, fun j => ⟨?_, ?_⟩, by rw [hz 1, if_pos rfl], by rw [hz 2, if_neg (by decide), if_pos rfl]⟩, ?_⟩
  · rw [hg.2.2.2.1 j]
    split
    · split
      · exact Or.inr rfl
      · exact Or.inl rfl
    · exact Or.inl rfl
  · rw [hg.2.2.2.2.1 j]
    split
    · split
      · exact Or.inr rfl
      · exact Or.inl rfl
    · exact Or.inl rfl
  · unfold jRm
    omega
theorem J.room {c : Nat} {w : PW} (h : J c w) (hc : c ≤ 512) : w.2.1 ≤ 601024 ∧ w.2.2 ≤ 7293000 := by
  obtain ⟨T, tw, th, sz, dp, nm, sy, sp, n, m, pt, pk, lv, pL, bi, bk, bL, Lo, Lf, Lt, rd, U, no, nf, nt, n4, n6, z, g, hC, hM, hJ, hR⟩ := h
  have a := hC.2.2.2.2.2.2.2.1.nn
  have b := hC.2.2.2.2.2.2.2.2.1.nn
  have d := hC.2.2.2.2.2.2.2.2.2.1.nn
  obtain ⟨tr, hr', szr, dpr, nmr, syr, spr, co, fr, en, pa, he, r4, r6, f4, f6, ml, ct, hs', hR', -⟩ := hC.2.2.2.2.2.2.2.2.2.2.1
  have e := hR'.2.1.2.2.2.1
  have f := hR'.2.2.1.2.2.2.1
  unfold jRm at hR
  omega
theorem J.next {c : Nat} {w : PW} (h : J c w) : J (c + 1) w := by
  obtain ⟨T, tw, th, sz, dp, nm, sy, sp, n, m, pt, pk, lv, pL, bi, bk, bL, Lo, Lf, Lt, rd, U, no, nf, nt, n4, n6, z, g, hC, hM, hJ, hR⟩ := h
  exact ⟨T, tw, th, sz, dp, nm, sy, sp, n, m, pt, pk, lv, pL, bi, bk, bL, Lo, Lf, Lt, rd, U, no, nf, nt, n4, n6, z, g, hC, hM, hJ, hR.mk (by omega) (by omega)⟩
theorem sl {L i : Nat} {xs : Nat → Int32} (j : Nat) (h : i + j < L) (hL : L ≤ 2562) : p_sld (L, xs) (Int32.ofNat i + Int32.ofNat j) = some (xs (i + j)) := by
  rw [show Int32.ofNat i + Int32.ofNat j = Int32.ofNat (i + j) from (Int32.ofNat_add i j).symm]
  unfold p_sld
  rw [q_tno (by omega)]
  rw [if_neg]
  rw [q_lti, q_ofi (by omega)]
  have e0 : (0 : Int32).toInt = 0 := rfl
  omega
section
variable {c : Nat} {A : PX} {B : PW → PX} {K : PW → PX}
theorem lw_C (h : jC c A B) : ∃ w2, (p_call A <| p_kI fun k w1 => (p_obj w1 37 10).bind fun _ => p_call (B w1) <| p_kI fun b w2 => (p_obj w2 37 10).bind fun _ => p_call (fD_thrown 37 w2) <| p_kI fun t w3 => if t = k then (if ¬ k = 0 then K w3 else ((p_aldJ w3 66 (0 : Int32)).bind fun v => if (lg_cmp v (Int32.toInt64 b)) = 0 then K w3 else (p_retZ (0 : Int32) w3))) else (p_retZ (0 : Int32) w3)) = K w2 ∧ J (c + 1) w2 := by
  obtain ⟨k, w1, b, w2, h1, ⟨f1, h2⟩, h3, ⟨f2, h4⟩, h5, h6, h7⟩ := h
  refine ⟨w2, ?_, h7⟩
  rw [h1, q_call, q_kI, h2, Option.bind_some, h3, q_call, q_kI, h4, Option.bind_some, h5, q_call, q_kI, if_pos rfl]
  by_cases hk : k = 0
  · rw [if_neg (not_not_intro hk), h6 hk, Option.bind_some, if_pos ((q_cmp_eq _ _).mpr rfl)]
  · rw [if_pos hk]
theorem lw_U (h : jU c A B) : ∃ w2, (p_call A <| p_kI fun k w1 => (p_obj w1 37 10).bind fun _ => p_call (B w1) <| p_kI fun b w2 => K w2) = K w2 ∧ J (c + 1) w2 := by
  obtain ⟨k, w1, b, w2, h1, ⟨f1, h2⟩, h3, h7⟩ := h
  refine ⟨w2, ?_, h7⟩
  rw [h1, q_call, q_kI, h2, Option.bind_some, h3, q_call, q_kI]
theorem lw_V (h : jV c A B) : ∃ w2, (p_call A <| p_kI fun k w1 => (p_obj w1 37 10).bind fun _ => p_call (B w1) <| p_kI fun b w2 => if k = b then K w2 else (p_retZ (0 : Int32) w2)) = K w2 ∧ J (c + 1) w2 := by
  obtain ⟨k, w1, w2, h1, ⟨f1, h2⟩, h3, h7⟩ := h
  refine ⟨w2, ?_, h7⟩
  rw [h1, q_call, q_kI, h2, Option.bind_some, h3, q_call, q_kI, if_pos rfl]
end
