/-! Nest mates, given tables, casts, new arrays. -/
section NEST
variable {Γ : PG} {μ ν : PM} {pc : Nat} {lv : List (Nat × Value)} {st : List Value} {w : PW} {x0 x1 : PX} {K : Option Value → PW → PX}
theorem ee_callIN {idx b n : Nat} {host : String} {as : List Value} (hd : decode (pm_cc μ) pc = .ok (.invokespecial idx, 3)) (hE : EE Γ ν 0 (lv_args 0 (.ref b :: as)) [] w x1) (hy : pz_my ν) (hn : (lg_sl (.ref b :: as)).length ≤ pm_nL ν) (hna : pz_na ν n) (hal : as.length = n) (hi : (pm_y ν).name = "<init>") (hv : pm_ret ν = none)
    (h1 : Cond.methodLinkNest (pm_own μ) idx (pm_y ν) host ∈ NW) (h2 : Cond.instanceMethod (pm_y ν) ∈ GW)
    (hR : pm_F ν + 1 ≤ pm_F μ ∧ 8 + (pm_nL ν + 11) + pm_L ν ≤ pm_L μ) (hst : (st.map fun v => v.category).sum ≤ 8)
    (kk : ∀ rv w1, x1 = some (.inl rv, w1) → EE Γ μ (pc + 3) lv (rv.toList ++ st) w1 (K rv w1)) : EE Γ μ pc lv (as.reverse ++ .ref b :: st) w (p_call x1 K) := by
  refine ee_call hE hy hn ?_ kk
  intro p e s m args below meth c R H locs cells slots ls cst α ws rv w1 hF hP hD hS hw hls hsr hMet hc1 hc2
  obtain ⟨l1, k1, rfl, hs1, hs2⟩ := hsr.split
  obtain ⟨a, rest, rfl, hb, hs3⟩ := hs2.r
  have has : pz_sr α (pg_X Γ) as l1.reverse := by
    have h9 := hs1.rev
    rwa [List.reverse_reverse] at h9
  refine ⟨rest, _, hs3, va_runIN (As := l1.reverse) (rest := rest) ⟨hF.x, hF.b, hF.l, hF.o, hF.w⟩ (hMet (.ref a :: l1.reverse) (has.pr hb)) ⟨va_cnB n hF.w (goodIn_gw (pz_wsin hy)) (show pm_ws ν = Cond.code (pm_y ν) (pm_cc ν) (pm_nL ν) none :: GW by rw [← hv]) rfl rfl (hF.N h1) (hF.w _ hy.2.2.2.2) ⟨hy.2.2.1.1, hy.2.2.1.2, hna⟩ (by rw [hF.F, hF.L]; exact hR), hi, hF.w _ h2⟩ ⟨pz_blind hF.M, fun U hU hW => ⟨rfl, pz_pre hF hP hS U hU hW⟩⟩ rfl (by rw [has.len]; exact hal) hls (by rw [List.reverse_reverse]) (lv_room (by rw [hs3.cats]; exact hst)) hd ⟨hc1, hc2⟩⟩
theorem ee_callSN {idx n : Nat} {host : String} {as : List Value} (hd : decode (pm_cc μ) pc = .ok (.invokestatic idx, 3)) (hE : EE Γ ν 0 (lv_args 0 as) [] w x1) (hy : pz_my ν) (hn : (lg_sl as).length ≤ pm_nL ν) (hna : pz_na ν n) (hal : as.length = n)
    (h1 : Cond.methodLinkNest (pm_own μ) idx (pm_y ν) host ∈ NW) (h2 : Cond.static (pm_y ν) ∈ GW)
    (hR : pm_F ν + 1 ≤ pm_F μ ∧ 8 + (pm_nL ν + 11) + pm_L ν ≤ pm_L μ) (hst : (st.map fun v => v.category).sum ≤ 8)
    (kk : ∀ rv w1, x1 = some (.inl rv, w1) → EE Γ μ (pc + 3) lv (rv.toList ++ st) w1 (K rv w1)) : EE Γ μ pc lv (as.reverse ++ st) w (p_call x1 K) := by
  refine ee_call hE hy hn ?_ kk
  intro p e s m args below meth c R H locs cells slots ls cst α ws rv w1 hF hP hD hS hw hls hsr hMet hc1 hc2
  obtain ⟨l1, rest, rfl, hs1, hs3⟩ := hsr.split
  have has : pz_sr α (pg_X Γ) as l1.reverse := by
    have h9 := hs1.rev
    rwa [List.reverse_reverse] at h9
  exact ⟨rest, _, hs3, va_runSN (As := l1.reverse) (rest := rest) ⟨hF.x, hF.b, hF.l, hF.o, hF.w⟩ (hMet l1.reverse has) ⟨va_cnB n hF.w (goodIn_gw (pz_wsin hy)) rfl rfl rfl (hF.N h1) (hF.w _ hy.2.2.2.2) ⟨hy.2.2.1.1, hy.2.2.1.2, hna⟩ (by rw [hF.F, hF.L]; exact hR), hF.w _ h2, trivial⟩ ⟨pz_blind hF.M, fun U hU hW => ⟨rfl, pz_pre hF hP hS U hU hW⟩⟩ rfl (by rw [has.len]; exact hal) hls (by rw [List.reverse_reverse]) (lv_room (by rw [hs3.cats]; exact hst)) hd ⟨hc1, hc2⟩⟩
/-- a given table -/
theorem ee_gets {idx j : Nat} (hj : j < 3) (hd : decode (pm_cc μ) pc = .ok (.getstatic idx, 3)) (hl : pz_lk (pm_own μ) idx "WaveFiles" (pz_sn j) "[I") (k : EE Γ μ (pc + 3) lv (.retAddr j :: st) w x0) : EE Γ μ pc lv st w x0 := by
  refine ee_of (fun p e s m args below meth c R α0 b1 b2 Q hF hB hg => ?_) k
  intro H locs cells slots ls cst ⟨α, clv, ws, hα, hP, hD, hS, hw, hls, hlr, hsr, e1, e2⟩
  have hZ := ((hF.S s hF.E).2.1 j hj).1
  rcases hl with hl | ⟨host, hl⟩ | ⟨ref, hl, hsm⟩
  · exact va_gets hF.x hF.b hZ hS hF.o (hF.w _ hl) (fun _ h => h) hd (hg _ _ _ _ _ _ ⟨α, clv, ws, hα, hP, hD, hS, hw, hls, hlr, hsr.px, e1, e2⟩)
  · exact va_getsN hF.x hF.b hZ hS hF.o (va_Nw.use rfl (hF.N hl)) (fun _ h => h) hd (hg _ _ _ _ _ _ ⟨α, clv, ws, hα, hP, hD, hS, hw, hls, hlr, hsr.px, e1, e2⟩)
  · exact va_gets hF.x hF.b hZ hS hF.o (hF.w _ hl) (u_same (hF.w _ hsm)) hd (hg _ _ _ _ _ _ ⟨α, clv, ws, hα, hP, hD, hS, hw, hls, hlr, hsr.px, e1, e2⟩)
def p_tab (j : Nat) (i : Int32) : Option Int32 := if i < 0 ∨ 11 ≤ i.toNatClampNeg then none else some (pz_tab j i.toNatClampNeg)
def p_tlen (_ : Nat) : Int32 := 11
theorem ee_tald {j : Nat} {i : Int32} {K : Int32 → PX} (hj : j < 3) (hd : decode (pm_cc μ) pc = .ok (.iaload, 1)) (kk : ∀ v, p_tab j i = some v → EE Γ μ (pc + 1) lv (.int v :: st) w (K v)) : EE Γ μ pc lv (.int i :: .retAddr j :: st) w ((p_tab j i).bind K) := by
  refine ee_bind (fun v hv => ?_)
  have h9 := kk v hv
  unfold p_tab at hv
  by_cases hc : i < 0 ∨ 11 ≤ i.toNatClampNeg
  · rw [if_pos hc] at hv; cases hv
  rw [if_neg hc] at hv
  cases hv
  refine ee_of (fun p e s m args below meth c R α0 b1 b2 Q hF hB hg => ?_) h9
  intro H locs cells slots ls cst ⟨α, clv, ws, hα, hP, hD, hS, hw, hls, hlr, hsr, e1, e2⟩
  obtain ⟨_, rfl, hs1_⟩ := hsr.i
  obtain ⟨_, rfl, hs2_⟩ := hs1_.x
  exact va_ti hF.x hF.b ((hF.S s hF.E).2.1 j hj).2 hS hc rfl hd (hg _ _ _ _ _ _ ⟨α, clv, ws, hα, hP, hD, hS, hw, hls, hlr, hs2_.pi, e1, e2⟩)
theorem ee_tlen {j : Nat} (hj : j < 3) (hd : decode (pm_cc μ) pc = .ok (.arraylength, 1)) (k : EE Γ μ (pc + 1) lv (.int (p_tlen j) :: st) w x0) : EE Γ μ pc lv (.retAddr j :: st) w x0 := by
  refine ee_of (fun p e s m args below meth c R α0 b1 b2 Q hF hB hg => ?_) k
  intro H locs cells slots ls cst ⟨α, clv, ws, hα, hP, hD, hS, hw, hls, hlr, hsr, e1, e2⟩
  obtain ⟨_, rfl, hs1_⟩ := hsr.x
  exact va_tlen hF.x hF.b ((hF.S s hF.E).2.1 j hj).2 hS (v := p_tlen j) (show Int32.ofNat 11 = 11 by decide) hd (hg _ _ _ _ _ _ ⟨α, clv, ws, hα, hP, hD, hS, hw, hls, hlr, hs1_.pi, e1, e2⟩)
theorem ee_cast {idx a ci : Nat} {C nm : String} {T : u_T} {N : Nat} {fs : List Value} (hd : decode (pm_cc μ) pc = .ok (.checkcast idx, 3)) (hc : vwCl[ci]? = some (C, T, N)) (h1 : Cond.classLink (pm_own μ) idx nm ∈ GW) (h2 : Cond.castable C nm ∈ NW) (ho : w.1[a]? = some (.inr (ci, fs))) (k : EE Γ μ (pc + 3) lv (.ref a :: st) w x0) : EE Γ μ pc lv (.ref a :: st) w x0 := by
  refine ee_of (fun p e s m args below meth c R α0 b1 b2 Q hF hB hg => ?_) k
  intro H locs cells slots ls cst ⟨α, clv, ws, hα, hP, hD, hS, hw, hls, hlr, hsr, e1, e2⟩
  obtain ⟨a0, _, rfl, ha0, hs1_⟩ := hsr.r
  obtain ⟨y, hy, gs, rfl, hgs⟩ := hw.at ha0 ho
  exact va_castY hF.x hF.b hF.o (hF.w _ h1) (hF.N h2) (va_recv hF.K hP hc hy) hd (hg _ _ _ _ _ _ ⟨α, clv, ws, hα, hP, hD, hS, hw, hls, hlr, hs1_.pr ha0, e1, e2⟩)

theorem ee_newI {i : Int32} {K : Nat → PW → PX} (hd : decode (pm_cc μ) pc = .ok (.newarray .int, 2)) (kk : ∀ a w1, a = w.1.length → w1 = (w.1 ++ [.inl (0, i.toNatClampNeg, .inl fun _ => 0)], w.2.1 + 1, w.2.2 + i.toNatClampNeg) → ¬ i < 0 → EE Γ μ (pc + 2) lv (.ref a :: st) w1 (K a w1)) : EE Γ μ pc lv (.int i :: st) w (p_newA w 0 4 i K) :=
  ee_newa hd (ty := .int) rfl rfl rfl rfl (fun _ _ h => h) gw_acI kk
theorem ee_newB {i : Int32} {K : Nat → PW → PX} (hd : decode (pm_cc μ) pc = .ok (.newarray .byte, 2)) (kk : ∀ a w1, a = w.1.length → w1 = (w.1 ++ [.inl (1, i.toNatClampNeg, .inl fun _ => 0)], w.2.1 + 1, w.2.2 + i.toNatClampNeg) → ¬ i < 0 → EE Γ μ (pc + 2) lv (.ref a :: st) w1 (K a w1)) : EE Γ μ pc lv (.int i :: st) w (p_newA w 1 1 i K) :=
  ee_newa hd (ty := .byte) rfl rfl rfl rfl (fun _ _ h => h) gw_acB kk
theorem ee_newZ {i : Int32} {K : Nat → PW → PX} (hd : decode (pm_cc μ) pc = .ok (.newarray .boolean, 2)) (kk : ∀ a w1, a = w.1.length → w1 = (w.1 ++ [.inl (2, i.toNatClampNeg, .inl fun _ => 0)], w.2.1 + 1, w.2.2 + i.toNatClampNeg) → ¬ i < 0 → EE Γ μ (pc + 2) lv (.ref a :: st) w1 (K a w1)) : EE Γ μ pc lv (.int i :: st) w (p_newA w 2 1 i K) :=
  ee_newa hd (ty := .boolean) rfl rfl rfl rfl (fun _ _ h => h) gw_acZ kk
end NEST
