def fW_partsOf_4 : Nat → Nat → Int32 → Int32 → Int32 → PW → PX
  | 0, _, _, _, _, _ => none
  | n9 + 1, l0, l1, l2, l3, w => (p_getR w l0 0 1).bind fun v6 => (p_obj w v6 11).bind fun _ => p_call (fAL_size v6 w) <| p_kI fun v9 w9 => if v9 ≤ l3 then (some (.inl (some (.int l2)), w9)) else ((p_getR w9 l0 0 1).bind fun v16 => (p_obj w9 v16 11).bind fun _ => p_call (fAL_get v16 l3 w9) <| p_kR fun v20 w20 => (p_obj w20 v20 8).bind fun _ => (p_getI w20 v20 8 0).bind fun v26 => if ¬ v26 = l1 then (p_let (l3 + (1 : Int32)) fun (l3_36 : Int32) => (fW_partsOf_4 n9) l0 l1 l2 l3_36 w20) else (p_let (l2 + (1 : Int32)) fun (l2_33 : Int32) => p_let (l3 + (1 : Int32)) fun (l3_36 : Int32) => (fW_partsOf_4 n9) l0 l1 l2_33 l3_36 w20))
set_option maxRecDepth 20000 in
set_option maxHeartbeats 2000000 in
theorem t_fW_partsOf_4 {Γ : PG} : ∀ (n9 : Nat) (l0 : Nat) (l1 : Int32) (l2 : Int32) (l3 : Int32) (w : PW), EE Γ MW_partsOf 4 [(0, .ref l0), (1, .int l1), (2, .int l2), (3, .int l3)] [] w (fW_partsOf_4 n9 l0 l1 l2 l3 w) := by
  intro n9
  induction n9 with
  | zero => intro l0 l1 l2 l3 w; exact ee_none
  | succ n9 ih =>
    intro l0 l1 l2 l3 w
    unfold fW_partsOf_4
    refine ee_iload_n 3 dW_partsOf_4 rfl ?_
    refine ee_aload_n 0 dW_partsOf_5 rfl ?_
    refine ee_getR dW_partsOf_6 lfW_19 (fun v6 _ => ?_)
    refine ee_bind (fun _ ho9 => ?_)
    refine ee_callV (as := []) (st := [.int l3]) dW_partsOf_9 (t_fAL_size v6 w) my_fAL_size.1 (Nat.le_of_ble_eq_true rfl) my_fAL_size.2 rfl cf_11.1 rfl (p_obj_eq.mp ho9) gw_715 gw_436 gw_437 ⟨Nat.le_of_ble_eq_true rfl, Nat.le_of_ble_eq_true rfl⟩ (Nat.le_of_ble_eq_true rfl) (fun rv9 w9 _ => ?_)
    refine ee_kI (fun v9 => ?_)
    refine ee_icmp_ge (tgt := 42) dW_partsOf_12 (by decide) (fun h12 => ?_) (fun h12 => ?_)
    · refine ee_iload_n 2 dW_partsOf_42 rfl ?_
      exact ee_iret rfl dW_partsOf_43
    · refine ee_aload_n 0 dW_partsOf_15 rfl ?_
      refine ee_getR dW_partsOf_16 lfW_19 (fun v16 _ => ?_)
      refine ee_iload_n 3 dW_partsOf_19 rfl ?_
      refine ee_bind (fun _ ho20 => ?_)
      refine ee_callV (as := [.int l3]) (st := []) dW_partsOf_20 (t_fAL_get v16 l3 w9) my_fAL_get.1 (Nat.le_of_ble_eq_true rfl) my_fAL_get.2 rfl cf_11.1 rfl (p_obj_eq.mp ho20) gw_909 gw_440 gw_441 ⟨Nat.le_of_ble_eq_true rfl, Nat.le_of_ble_eq_true rfl⟩ (Nat.le_of_ble_eq_true rfl) (fun rv20 w20 _ => ?_)
      refine ee_kR (fun v20 => ?_)
      refine ee_bind (fun _ ho23 => ?_)
      refine ee_cast dW_partsOf_23 cf_8.1 gw_903 gw_1612 (p_obj_eq.mp ho23) ?_
      refine ee_getI dW_partsOf_26 lfW_323 (fun v26 _ => ?_)
      refine ee_iload_n 1 dW_partsOf_29 rfl ?_
      refine ee_icmp_ne (tgt := 36) dW_partsOf_30 (by decide) (fun h30 => ?_) (fun h30 => ?_)
      · refine ee_iinc 3 dW_partsOf_36 rfl (e := (1 : Int32)) (by decide) (Nat.le_of_ble_eq_true rfl) (fun l3_36 _ => ?_)
        refine ee_lv (lv2 := [(3, .int l3_36), (0, .ref l0), (1, .int l1), (2, .int l2)]) rfl ?_
        refine ee_goto (tgt := 4) dW_partsOf_39 (by decide) ?_
        refine ee_pick [1, 2, 3, 0] rfl ?_
        exact ih _ _ _ _ w20
      · refine ee_iinc 2 dW_partsOf_33 rfl (e := (1 : Int32)) (by decide) (Nat.le_of_ble_eq_true rfl) (fun l2_33 _ => ?_)
        refine ee_lv (lv2 := [(2, .int l2_33), (0, .ref l0), (1, .int l1), (3, .int l3)]) rfl ?_
        refine ee_iinc 3 dW_partsOf_36 rfl (e := (1 : Int32)) (by decide) (Nat.le_of_ble_eq_true rfl) (fun l3_36 _ => ?_)
        refine ee_lv (lv2 := [(3, .int l3_36), (2, .int l2_33), (0, .ref l0), (1, .int l1)]) rfl ?_
        refine ee_goto (tgt := 4) dW_partsOf_39 (by decide) ?_
        refine ee_pick [2, 3, 1, 0] rfl ?_
        exact ih _ _ _ _ w20
def fW_partsOf (l0 : Nat) (l1 : Int32) (w : PW) : PX := fW_partsOf_4 FUEL l0 l1 (0 : Int32) (0 : Int32) w
set_option maxRecDepth 20000 in
set_option maxHeartbeats 2000000 in
theorem t_fW_partsOf {Γ : PG} : ∀ (l0 : Nat) (l1 : Int32) (w : PW), EE Γ MW_partsOf 0 (lv_args 0 [.ref l0, .int l1]) [] w (fW_partsOf l0 l1 w) := by
  intro l0 l1 w
  unfold fW_partsOf
  show EE Γ MW_partsOf 0 [(0, .ref l0), (1, .int l1)] [] w _
  refine ee_iconst (v := (0 : Int32)) dW_partsOf_0 (by decide) ?_
  refine ee_istore_n (lv2 := [(2, .int (0 : Int32)), (0, .ref l0), (1, .int l1)]) dW_partsOf_1 (Nat.le_of_ble_eq_true rfl) rfl ?_
  refine ee_iconst (v := (0 : Int32)) dW_partsOf_2 (by decide) ?_
  refine ee_istore_n (lv2 := [(3, .int (0 : Int32)), (2, .int (0 : Int32)), (0, .ref l0), (1, .int l1)]) dW_partsOf_3 (Nat.le_of_ble_eq_true rfl) rfl ?_
  refine ee_pick [2, 3, 1, 0] rfl ?_
  exact t_fW_partsOf_4 FUEL _ _ _ _ w
def fArraysSupport_newLength_21 (l0 : Int32) (l1 : Int32) (w : PW) : PX := none
set_option maxRecDepth 20000 in
set_option maxHeartbeats 2000000 in
theorem t_fArraysSupport_newLength_21 {Γ : PG} : ∀ (l0 : Int32) (l1 : Int32) (w : PW), EE Γ MArraysSupport_newLength 21 [(0, .int l0), (1, .int l1)] [] w (fArraysSupport_newLength_21 l0 l1 w) := by
  intro l0 l1 w
  unfold fArraysSupport_newLength_21
  refine ee_iload_n 0 dArraysSupport_newLength_21 rfl ?_
  refine ee_iload_n 1 dArraysSupport_newLength_22 rfl ?_
  exact ee_none
def fArraysSupport_newLength (l0 : Int32) (l1 : Int32) (l2 : Int32) (w : PW) : PX := p_let ((l0 + (p_max l1 l2))) fun (l3_7 : Int32) => if l3_7 ≤ (0 : Int32) then (fArraysSupport_newLength_21 l0 l1 w) else (if (2147483639 : Int32) < l3_7 then (fArraysSupport_newLength_21 l0 l1 w) else (some (.inl (some (.int l3_7)), w)))
set_option maxRecDepth 20000 in
set_option maxHeartbeats 2000000 in
theorem t_fArraysSupport_newLength {Γ : PG} : ∀ (l0 : Int32) (l1 : Int32) (l2 : Int32) (w : PW), EE Γ MArraysSupport_newLength 0 (lv_args 0 [.int l0, .int l1, .int l2]) [] w (fArraysSupport_newLength l0 l1 l2 w) := by
  intro l0 l1 l2 w
  unfold fArraysSupport_newLength
  show EE Γ MArraysSupport_newLength 0 [(0, .int l0), (1, .int l1), (2, .int l2)] [] w _
  refine ee_iload_n 0 dArraysSupport_newLength_0 rfl ?_
  refine ee_iload_n 1 dArraysSupport_newLength_1 rfl ?_
  refine ee_iload_n 2 dArraysSupport_newLength_2 rfl ?_
  refine ee_mmax dArraysSupport_newLength_3 gw_959 gw_mmaxs gw_mi gw_mmaxc ⟨Nat.le_of_ble_eq_true rfl, Nat.le_of_ble_eq_true rfl⟩ ?_
  refine ee_iadd dArraysSupport_newLength_6 ?_
  refine ee_letI (fun l3_7 _ => ?_)
  refine ee_istore_n (lv2 := [(3, .int l3_7), (0, .int l0), (1, .int l1), (2, .int l2)]) dArraysSupport_newLength_7 (Nat.le_of_ble_eq_true rfl) rfl ?_
  refine ee_iconst (v := (0 : Int32)) dArraysSupport_newLength_8 (by decide) ?_
  refine ee_iload_n 0 dArraysSupport_newLength_9 rfl ?_
  refine ee_icmp_ge (tgt := 21) dArraysSupport_newLength_10 (by decide) (fun h10 => ?_) (fun h10 => ?_)
  · refine ee_pick [1, 2] rfl ?_
    exact t_fArraysSupport_newLength_21 _ _ w
  · refine ee_iload_n 0 dArraysSupport_newLength_13 rfl ?_
    refine ee_ldc (v := (2147483639 : Int32)) dArraysSupport_newLength_14 gw_960 ?_
    refine ee_icmp_gt (tgt := 21) dArraysSupport_newLength_16 (by decide) (fun h16 => ?_) (fun h16 => ?_)
    · refine ee_pick [1, 2] rfl ?_
      exact t_fArraysSupport_newLength_21 _ _ w
    · refine ee_iload_n 0 dArraysSupport_newLength_19 rfl ?_
      exact ee_iret rfl dArraysSupport_newLength_20
def fAR_copyOf1_24 (l0 : Nat) (l1 : Int32) (s0 : Nat) (w : PW) : PX := (p_len w l0).bind fun v30 => (p_copyR w l0 (0 : Int32) s0 (0 : Int32) (p_min v30 l1)).bind fun w35 => some (.inl (some (.ref s0)), w35)
set_option maxRecDepth 20000 in
set_option maxHeartbeats 2000000 in
theorem t_fAR_copyOf1_24 {Γ : PG} : ∀ (l0 : Nat) (l1 : Int32) (s0 : Nat) (w : PW), EE Γ MAR_copyOf1 24 [(0, .ref l0), (1, .int l1)] [.ref s0] w (fAR_copyOf1_24 l0 l1 s0 w) := by
  intro l0 l1 s0 w
  unfold fAR_copyOf1_24
  refine ee_astore_n (lv2 := [(3, .ref s0), (0, .ref l0), (1, .int l1)]) dAR_copyOf1_24 (Nat.le_of_ble_eq_true rfl) rfl ?_
  refine ee_aload_n 1 dAR_copyOf1_25 rfl ?_
  refine ee_iconst (v := (0 : Int32)) dAR_copyOf1_26 (by decide) ?_
  refine ee_aload_n 0 dAR_copyOf1_27 rfl ?_
  refine ee_iconst (v := (0 : Int32)) dAR_copyOf1_28 (by decide) ?_
  refine ee_aload_n 1 dAR_copyOf1_29 rfl ?_
  refine ee_alen dAR_copyOf1_30 (fun v30 _ => ?_)
  refine ee_iload_n 2 dAR_copyOf1_31 rfl ?_
  refine ee_mmin dAR_copyOf1_32 gw_392 gw_mmins gw_mi gw_mminc ⟨Nat.le_of_ble_eq_true rfl, Nat.le_of_ble_eq_true rfl⟩ ?_
  refine ee_copyR dAR_copyOf1_35 gw_393 gw_395 gw_394 gw_78 ⟨Nat.le_of_ble_eq_true rfl, by decide⟩ (fun w35 _ => ?_)
  refine ee_aload_n 0 dAR_copyOf1_38 rfl ?_
  exact ee_aret rfl (Or.inr ⟨_, rfl⟩) dAR_copyOf1_39
def fAR_copyOf1 (l0 : Nat) (l1 : Int32) (w : PW) : PX := p_newR w l1 fun v7 w7 => fAR_copyOf1_24 l0 l1 v7 w7
set_option maxRecDepth 20000 in
set_option maxHeartbeats 2000000 in
theorem t_fAR_copyOf1 {Γ : PG} : ∀ (l0 : Nat) (l1 : Int32) (w : PW), EE Γ MAR_copyOf1 0 (lv_args 0 [.ref l0, .int l1, .retAddr 4]) [] w (fAR_copyOf1 l0 l1 w) := by
  intro l0 l1 w
  unfold fAR_copyOf1
  show EE Γ MAR_copyOf1 0 [(0, .ref l0), (1, .int l1), (2, .retAddr 4)] [] w _
  refine ee_aload_nT 2 dAR_copyOf1_0 rfl ?_
  refine ee_ldcM dAR_copyOf1_1 gw_990 ?_
  refine ee_acmpneTT (tgt := 13) dAR_copyOf1_3 (by decide) ?_
  refine ee_iload_n 1 dAR_copyOf1_6 rfl ?_
  refine ee_newR dAR_copyOf1_7 gw_992 (fun v7 w7 _ _ _ => ?_)
  refine ee_goto (tgt := 24) dAR_copyOf1_10 (by decide) ?_
  refine ee_pick [0, 1] rfl ?_
  exact t_fAR_copyOf1_24 _ _ _ w7
def fAR_copyOf0 (l0 : Nat) (l1 : Int32) (w : PW) : PX := (p_arrR w l0).bind fun _ => p_call (fAR_copyOf1 l0 l1 w) <| p_kR fun v6 w6 => some (.inl (some (.ref v6)), w6)
set_option maxRecDepth 20000 in
set_option maxHeartbeats 2000000 in
theorem t_fAR_copyOf0 {Γ : PG} : ∀ (l0 : Nat) (l1 : Int32) (w : PW), EE Γ MAR_copyOf0 0 (lv_args 0 [.ref l0, .int l1]) [] w (fAR_copyOf0 l0 l1 w) := by
  intro l0 l1 w
  unfold fAR_copyOf0
  show EE Γ MAR_copyOf0 0 [(0, .ref l0), (1, .int l1)] [] w _
  refine ee_aload_n 0 dAR_copyOf0_0 rfl ?_
  refine ee_iload_n 1 dAR_copyOf0_1 rfl ?_
  refine ee_aload_n 0 dAR_copyOf0_2 rfl ?_
  refine ee_bind (fun _ ha3 => ?_)
  refine ee_getC dAR_copyOf0_3 ha3 gw_967 gw_1615 gw_1614 gw_968 gw_986 ⟨Nat.le_of_ble_eq_true rfl, Nat.le_of_ble_eq_true rfl⟩ ?_
  refine ee_callS (as := [.ref l0, .int l1, .retAddr 4]) (st := []) dAR_copyOf0_6 (t_fAR_copyOf1 l0 l1 w) my_fAR_copyOf1.1 (Nat.le_of_ble_eq_true rfl) my_fAR_copyOf1.2 rfl gw_987 gw_988 ⟨Nat.le_of_ble_eq_true rfl, Nat.le_of_ble_eq_true rfl⟩ (Nat.le_of_ble_eq_true rfl) (fun rv6 w6 _ => ?_)
  refine ee_kR (fun v6 => ?_)
  exact ee_aret rfl (Or.inr ⟨_, rfl⟩) dAR_copyOf0_9
def fAL_grow0_20 (l0 : Nat) (l1 : Int32) (l2 : Int32) (w : PW) : PX := p_call (fArraysSupport_newLength l2 (l1 - l2) (p_ishr l2 (1 : Int32)) w) <| p_kI fun v27 w27 => (p_getV w27 l0 11 1).bind fun v9 => p_spl v9 (fun v33 => p_call (fAR_copyOf0 v33 v27 w27) <| p_kR fun v37 w37 => (p_put w37 l0 11 1 (.ref v37)).bind fun w41 => some (.inl (some (.ref v37)), w41)) (none)
set_option maxRecDepth 20000 in
set_option maxHeartbeats 2000000 in
theorem t_fAL_grow0_20 {Γ : PG} : ∀ (l0 : Nat) (l1 : Int32) (l2 : Int32) (w : PW), EE Γ MAL_grow0 20 [(0, .ref l0), (1, .int l1), (2, .int l2)] [] w (fAL_grow0_20 l0 l1 l2 w) := by
  intro l0 l1 l2 w
  unfold fAL_grow0_20
  refine ee_iload_n 2 dAL_grow0_20 rfl ?_
  refine ee_iload_n 1 dAL_grow0_21 rfl ?_
  refine ee_iload_n 2 dAL_grow0_22 rfl ?_
  refine ee_isub dAL_grow0_23 ?_
  refine ee_iload_n 2 dAL_grow0_24 rfl ?_
  refine ee_iconst (v := (1 : Int32)) dAL_grow0_25 (by decide) ?_
  refine ee_ishr dAL_grow0_26 ?_
  refine ee_callS (as := [.int l2, .int (l1 - l2), .int (p_ishr l2 (1 : Int32))]) (st := []) dAL_grow0_27 (t_fArraysSupport_newLength l2 (l1 - l2) (p_ishr l2 (1 : Int32)) w) my_fArraysSupport_newLength.1 (Nat.le_of_ble_eq_true rfl) my_fArraysSupport_newLength.2 rfl gw_956 gw_957 ⟨Nat.le_of_ble_eq_true rfl, Nat.le_of_ble_eq_true rfl⟩ (Nat.le_of_ble_eq_true rfl) (fun rv27 w27 _ => ?_)
  refine ee_kI (fun v27 => ?_)
  refine ee_istore_n (lv2 := [(3, .int v27), (0, .ref l0), (1, .int l1), (2, .int l2)]) dAL_grow0_30 (Nat.le_of_ble_eq_true rfl) rfl ?_
  refine ee_aload_n 1 dAL_grow0_31 rfl ?_
  refine ee_aload_n 1 dAL_grow0_32 rfl ?_
  refine ee_getV dAL_grow0_33 lfAL_9 (fun v33 => ?_) ?_
  · refine ee_iload_n 0 dAL_grow0_36 rfl ?_
    refine ee_callS (as := [.ref v33, .int v27]) (st := [.ref l0]) dAL_grow0_37 (t_fAR_copyOf0 v33 v27 w27) my_fAR_copyOf0.1 (Nat.le_of_ble_eq_true rfl) my_fAR_copyOf0.2 rfl gw_964 gw_965 ⟨Nat.le_of_ble_eq_true rfl, Nat.le_of_ble_eq_true rfl⟩ (Nat.le_of_ble_eq_true rfl) (fun rv37 w37 _ => ?_)
    refine ee_kR (fun v37 => ?_)
    refine ee_dup_x1 dAL_grow0_40 rfl rfl ?_
    refine ee_put dAL_grow0_41 lpAL_9 (ee_nRA _ _) (fun w41 _ => ?_)
    exact ee_aret rfl (Or.inr ⟨_, rfl⟩) dAL_grow0_44
  · refine ee_iload_n 0 dAL_grow0_36 rfl ?_
    exact ee_none
def fAL_grow0 (l0 : Nat) (l1 : Int32) (w : PW) : PX := (p_getV w l0 11 1).bind fun v9 => p_spl v9 (fun v1 => (p_len w v1).bind fun v4 => if 0 < v4 then (fAL_grow0_20 l0 l1 v4 w) else ((p_getV w l0 11 1).bind fun v9 => p_spl v9 (fun v11 => (w.1[v11]?).bind fun _ => fAL_grow0_20 l0 l1 v4 w) (p_newR w (p_max (10 : Int32) l1) fun v52 w52 => (p_put w52 l0 11 1 (.ref v52)).bind fun w56 => some (.inl (some (.ref v52)), w56)))) (if 0 < (0 : Int32) then (fAL_grow0_20 l0 l1 (0 : Int32) w) else ((p_getV w l0 11 1).bind fun v9 => p_spl v9 (fun v11 => (w.1[v11]?).bind fun _ => fAL_grow0_20 l0 l1 (0 : Int32) w) (p_newR w (p_max (10 : Int32) l1) fun v52 w52 => (p_put w52 l0 11 1 (.ref v52)).bind fun w56 => some (.inl (some (.ref v52)), w56))))
set_option maxRecDepth 20000 in
set_option maxHeartbeats 2000000 in
theorem t_fAL_grow0 {Γ : PG} : ∀ (l0 : Nat) (l1 : Int32) (w : PW), EE Γ MAL_grow0 0 (lv_args 0 [.ref l0, .int l1]) [] w (fAL_grow0 l0 l1 w) := by
  intro l0 l1 w
  unfold fAL_grow0
  show EE Γ MAL_grow0 0 [(0, .ref l0), (1, .int l1)] [] w _
  refine ee_aload_n 0 dAL_grow0_0 rfl ?_
  refine ee_getV dAL_grow0_1 lfAL_9 (fun v1 => ?_) ?_
  · refine ee_alen dAL_grow0_4 (fun v4 _ => ?_)
    refine ee_istore_n (lv2 := [(2, .int v4), (0, .ref l0), (1, .int l1)]) dAL_grow0_5 (Nat.le_of_ble_eq_true rfl) rfl ?_
    refine ee_iload_n 0 dAL_grow0_6 rfl ?_
    refine ee_if_gt (tgt := 20) dAL_grow0_7 (by decide) (fun h7 => ?_) (fun h7 => ?_)
    · refine ee_pick [1, 2, 0] rfl ?_
      exact t_fAL_grow0_20 _ _ _ w
    · refine ee_aload_n 1 dAL_grow0_10 rfl ?_
      refine ee_getV dAL_grow0_11 lfAL_9 (fun v11 => ?_) ?_
      · refine ee_getsE dAL_grow0_14 gw_138 ?_
        refine ee_bind (fun _ hx17 => ?_)
        refine ee_acmpRT (tgt := 45) dAL_grow0_17 (by decide) hx17 ?_
        refine ee_pick [1, 2, 0] rfl ?_
        exact t_fAL_grow0_20 _ _ _ w
      · refine ee_getsE dAL_grow0_14 gw_138 ?_
        refine ee_acmpTT (tgt := 45) dAL_grow0_17 (by decide) ?_
        refine ee_aload_n 1 dAL_grow0_45 rfl ?_
        refine ee_bipush (v := (10 : Int32)) dAL_grow0_46 (by decide) ?_
        refine ee_iload_n 2 dAL_grow0_48 rfl ?_
        refine ee_mmax dAL_grow0_49 gw_993 gw_mmaxs gw_mi gw_mmaxc ⟨Nat.le_of_ble_eq_true rfl, Nat.le_of_ble_eq_true rfl⟩ ?_
        refine ee_newR dAL_grow0_52 gw_994 (fun v52 w52 _ _ _ => ?_)
        refine ee_dup_x1 dAL_grow0_55 rfl rfl ?_
        refine ee_put dAL_grow0_56 lpAL_9 (ee_nRA _ _) (fun w56 _ => ?_)
        exact ee_aret rfl (Or.inr ⟨_, rfl⟩) dAL_grow0_59
  · refine ee_tlenE dAL_grow0_4 ?_
    refine ee_istore_n (lv2 := [(2, .int (0 : Int32)), (0, .ref l0), (1, .int l1)]) dAL_grow0_5 (Nat.le_of_ble_eq_true rfl) rfl ?_
    refine ee_iload_n 0 dAL_grow0_6 rfl ?_
    refine ee_if_gt (tgt := 20) dAL_grow0_7 (by decide) (fun h7 => ?_) (fun h7 => ?_)
    · refine ee_pick [1, 2, 0] rfl ?_
      exact t_fAL_grow0_20 _ _ _ w
    · refine ee_aload_n 1 dAL_grow0_10 rfl ?_
      refine ee_getV dAL_grow0_11 lfAL_9 (fun v11 => ?_) ?_
      · refine ee_getsE dAL_grow0_14 gw_138 ?_
        refine ee_bind (fun _ hx17 => ?_)
        refine ee_acmpRT (tgt := 45) dAL_grow0_17 (by decide) hx17 ?_
        refine ee_pick [1, 2, 0] rfl ?_
        exact t_fAL_grow0_20 _ _ _ w
      · refine ee_getsE dAL_grow0_14 gw_138 ?_
        refine ee_acmpTT (tgt := 45) dAL_grow0_17 (by decide) ?_
        refine ee_aload_n 1 dAL_grow0_45 rfl ?_
        refine ee_bipush (v := (10 : Int32)) dAL_grow0_46 (by decide) ?_
        refine ee_iload_n 2 dAL_grow0_48 rfl ?_
        refine ee_mmax dAL_grow0_49 gw_993 gw_mmaxs gw_mi gw_mmaxc ⟨Nat.le_of_ble_eq_true rfl, Nat.le_of_ble_eq_true rfl⟩ ?_
        refine ee_newR dAL_grow0_52 gw_994 (fun v52 w52 _ _ _ => ?_)
        refine ee_dup_x1 dAL_grow0_55 rfl rfl ?_
        refine ee_put dAL_grow0_56 lpAL_9 (ee_nRA _ _) (fun w56 _ => ?_)
        exact ee_aret rfl (Or.inr ⟨_, rfl⟩) dAL_grow0_59
def fAL_grow1 (l0 : Nat) (w : PW) : PX := (p_getI w l0 11 2).bind fun v2 => (p_obj w l0 11).bind fun _ => p_call (fAL_grow0 l0 (v2 + (1 : Int32)) w) <| p_kR fun v7 w7 => some (.inl (some (.ref v7)), w7)
set_option maxRecDepth 20000 in
set_option maxHeartbeats 2000000 in
theorem t_fAL_grow1 {Γ : PG} : ∀ (l0 : Nat) (w : PW), EE Γ MAL_grow1 0 (lv_args 0 [.ref l0]) [] w (fAL_grow1 l0 w) := by
  intro l0 w
  unfold fAL_grow1
  show EE Γ MAL_grow1 0 [(0, .ref l0)] [] w _
  refine ee_aload_n 0 dAL_grow1_0 rfl ?_
  refine ee_aload_n 0 dAL_grow1_1 rfl ?_
  refine ee_getI dAL_grow1_2 lfAL_48 (fun v2 _ => ?_)
  refine ee_iconst (v := (1 : Int32)) dAL_grow1_5 (by decide) ?_
  refine ee_iadd dAL_grow1_6 ?_
  refine ee_bind (fun _ ho7 => ?_)
  refine ee_callV (as := [.int (v2 + (1 : Int32))]) (st := []) dAL_grow1_7 (t_fAL_grow0 l0 (v2 + (1 : Int32)) w) my_fAL_grow0.1 (Nat.le_of_ble_eq_true rfl) my_fAL_grow0.2 rfl cf_11.1 rfl (p_obj_eq.mp ho7) gw_952 gw_954 gw_6 ⟨Nat.le_of_ble_eq_true rfl, Nat.le_of_ble_eq_true rfl⟩ (Nat.le_of_ble_eq_true rfl) (fun rv7 w7 _ => ?_)
  refine ee_kR (fun v7 => ?_)
  exact ee_aret rfl (Or.inr ⟨_, rfl⟩) dAL_grow1_10
def fAL_add0_11T (l0 : Nat) (l1 : Nat) (l3 : Int32) (w : PW) : PX := none
set_option maxRecDepth 20000 in
set_option maxHeartbeats 2000000 in
theorem t_fAL_add0_11T {Γ : PG} : ∀ (l0 : Nat) (l1 : Nat) (l3 : Int32) (w : PW), EE Γ MAL_add0 11 [(0, .ref l0), (1, .ref l1), (2, .retAddr 3), (3, .int l3)] [] w (fAL_add0_11T l0 l1 l3 w) := by
  intro l0 l1 l3 w
  unfold fAL_add0_11T
  refine ee_aload_nT 2 dAL_add0_11 rfl ?_
  refine ee_iload_n 3 dAL_add0_12 rfl ?_
  refine ee_aload_n 1 dAL_add0_13 rfl ?_
  exact ee_none
def fAL_add0_11 (l0 : Nat) (l1 : Nat) (l2 : Nat) (l3 : Int32) (w : PW) : PX := (p_astR w l2 l3 (some l1)).bind fun w14 => (p_put w14 l0 11 2 (.int (l3 + (1 : Int32)))).bind fun w19 => some (.inl none, w19)
set_option maxRecDepth 20000 in
set_option maxHeartbeats 2000000 in
theorem t_fAL_add0_11 {Γ : PG} : ∀ (l0 : Nat) (l1 : Nat) (l2 : Nat) (l3 : Int32) (w : PW), EE Γ MAL_add0 11 [(0, .ref l0), (1, .ref l1), (2, .ref l2), (3, .int l3)] [] w (fAL_add0_11 l0 l1 l2 l3 w) := by
  intro l0 l1 l2 l3 w
  unfold fAL_add0_11
  refine ee_aload_n 2 dAL_add0_11 rfl ?_
  refine ee_iload_n 3 dAL_add0_12 rfl ?_
  refine ee_aload_n 1 dAL_add0_13 rfl ?_
  refine ee_aast dAL_add0_14 (fun w14 _ => ?_)
  refine ee_aload_n 0 dAL_add0_15 rfl ?_
  refine ee_iload_n 3 dAL_add0_16 rfl ?_
  refine ee_iconst (v := (1 : Int32)) dAL_add0_17 (by decide) ?_
  refine ee_iadd dAL_add0_18 ?_
  refine ee_put dAL_add0_19 lpAL_48 (ee_nI _) (fun w19 _ => ?_)
  exact ee_vret rfl dAL_add0_22
def fAL_add0 (l0 : Nat) (l1 : Nat) (l2 : Value) (l3 : Int32) (w : PW) : PX := p_spl l2 (fun x2 => (p_len w x2).bind fun v2 => if ¬ l3 = v2 then (fAL_add0_11 l0 l1 x2 l3 w) else ((p_obj w l0 11).bind fun _ => p_call (fAL_grow1 l0 w) <| p_kR fun v7 w7 => fAL_add0_11 l0 l1 v7 l3 w7)) (if ¬ l3 = (0 : Int32) then (fAL_add0_11T l0 l1 l3 w) else ((p_obj w l0 11).bind fun _ => p_call (fAL_grow1 l0 w) <| p_kR fun v7 w7 => fAL_add0_11 l0 l1 v7 l3 w7))
set_option maxRecDepth 20000 in
set_option maxHeartbeats 2000000 in
theorem t_fAL_add0 {Γ : PG} : ∀ (l0 : Nat) (l1 : Nat) (l2 : Value) (l3 : Int32) (w : PW), EE Γ MAL_add0 0 (lv_args 0 [.ref l0, .ref l1, l2, .int l3]) [] w (fAL_add0 l0 l1 l2 l3 w) := by
  intro l0 l1 l2 l3 w
  unfold fAL_add0
  refine ee_splA (as := [.ref l0, .ref l1]) (bs := [.int l3]) (fun x2 => ?_) ?_
  · show EE Γ MAL_add0 0 [(0, .ref l0), (1, .ref l1), (2, .ref x2), (3, .int l3)] [] w _
    refine ee_iload_n 3 dAL_add0_0 rfl ?_
    refine ee_aload_n 2 dAL_add0_1 rfl ?_
    refine ee_alen dAL_add0_2 (fun v2 _ => ?_)
    refine ee_icmp_ne (tgt := 11) dAL_add0_3 (by decide) (fun h3 => ?_) (fun h3 => ?_)
    · exact t_fAL_add0_11 _ _ _ _ w
    · refine ee_aload_n 0 dAL_add0_6 rfl ?_
      refine ee_bind (fun _ ho7 => ?_)
      refine ee_callV (as := []) (st := []) dAL_add0_7 (t_fAL_grow1 l0 w) my_fAL_grow1.1 (Nat.le_of_ble_eq_true rfl) my_fAL_grow1.2 rfl cf_11.1 rfl (p_obj_eq.mp ho7) gw_948 gw_950 gw_5 ⟨Nat.le_of_ble_eq_true rfl, Nat.le_of_ble_eq_true rfl⟩ (Nat.le_of_ble_eq_true rfl) (fun rv7 w7 _ => ?_)
      refine ee_kR (fun v7 => ?_)
      refine ee_astore_n (lv2 := [(2, .ref v7), (0, .ref l0), (1, .ref l1), (3, .int l3)]) dAL_add0_10 (Nat.le_of_ble_eq_true rfl) rfl ?_
      refine ee_pick [1, 2, 0, 3] rfl ?_
      exact t_fAL_add0_11 _ _ _ _ w7
  · show EE Γ MAL_add0 0 [(0, .ref l0), (1, .ref l1), (2, .retAddr 3), (3, .int l3)] [] w _
    refine ee_iload_n 3 dAL_add0_0 rfl ?_
    refine ee_aload_nT 2 dAL_add0_1 rfl ?_
    refine ee_tlenE dAL_add0_2 ?_
    refine ee_icmp_ne (tgt := 11) dAL_add0_3 (by decide) (fun h3 => ?_) (fun h3 => ?_)
    · exact t_fAL_add0_11T _ _ _ w
    · refine ee_aload_n 0 dAL_add0_6 rfl ?_
      refine ee_bind (fun _ ho7 => ?_)
      refine ee_callV (as := []) (st := []) dAL_add0_7 (t_fAL_grow1 l0 w) my_fAL_grow1.1 (Nat.le_of_ble_eq_true rfl) my_fAL_grow1.2 rfl cf_11.1 rfl (p_obj_eq.mp ho7) gw_948 gw_950 gw_5 ⟨Nat.le_of_ble_eq_true rfl, Nat.le_of_ble_eq_true rfl⟩ (Nat.le_of_ble_eq_true rfl) (fun rv7 w7 _ => ?_)
      refine ee_kR (fun v7 => ?_)
      refine ee_astore_n (lv2 := [(2, .ref v7), (0, .ref l0), (1, .ref l1), (3, .int l3)]) dAL_add0_10 (Nat.le_of_ble_eq_true rfl) rfl ?_
      refine ee_pick [1, 2, 0, 3] rfl ?_
      exact t_fAL_add0_11 _ _ _ _ w7
def fAL_add1 (l0 : Nat) (l1 : Nat) (w : PW) : PX := (p_getI w l0 11 0).bind fun v2 => (p_put w l0 11 0 (.int (v2 + (1 : Int32)))).bind fun w7 => (p_getV w7 l0 11 1).bind fun v9 => p_spl v9 (fun v13 => (p_getI w7 l0 11 2).bind fun v17 => (p_obj w7 l0 11).bind fun _ => p_call (fAL_add0 l0 l1 (.ref v13) v17 w7) <| p_kV fun w20 => p_retZ (1 : Int32) w20) ((p_getI w7 l0 11 2).bind fun v17 => (p_obj w7 l0 11).bind fun _ => p_call (fAL_add0 l0 l1 (.retAddr 3) v17 w7) <| p_kV fun w20 => p_retZ (1 : Int32) w20)
set_option maxRecDepth 20000 in
set_option maxHeartbeats 2000000 in
theorem t_fAL_add1 {Γ : PG} : ∀ (l0 : Nat) (l1 : Nat) (w : PW), EE Γ MAL_add1 0 (lv_args 0 [.ref l0, .ref l1]) [] w (fAL_add1 l0 l1 w) := by
  intro l0 l1 w
  unfold fAL_add1
  show EE Γ MAL_add1 0 [(0, .ref l0), (1, .ref l1)] [] w _
  refine ee_aload_n 0 dAL_add1_0 rfl ?_
  refine ee_dup dAL_add1_1 rfl ?_
  refine ee_getI dAL_add1_2 lfAL_63 (fun v2 _ => ?_)
  refine ee_iconst (v := (1 : Int32)) dAL_add1_5 (by decide) ?_
  refine ee_iadd dAL_add1_6 ?_
  refine ee_put dAL_add1_7 lpAL_63 (ee_nI _) (fun w7 _ => ?_)
  refine ee_aload_n 0 dAL_add1_10 rfl ?_
  refine ee_aload_n 1 dAL_add1_11 rfl ?_
  refine ee_aload_n 0 dAL_add1_12 rfl ?_
  refine ee_getV dAL_add1_13 lfAL_9 (fun v13 => ?_) ?_
  · refine ee_aload_n 0 dAL_add1_16 rfl ?_
    refine ee_getI dAL_add1_17 lfAL_48 (fun v17 _ => ?_)
    refine ee_bind (fun _ ho20 => ?_)
    refine ee_callV (as := [.ref l1, .ref v13, .int v17]) (st := []) dAL_add1_20 (t_fAL_add0 l0 l1 (.ref v13) v17 w7) my_fAL_add0.1 (Nat.le_of_ble_eq_true rfl) my_fAL_add0.2 rfl cf_11.1 rfl (p_obj_eq.mp ho20) gw_944 gw_946 gw_4 ⟨Nat.le_of_ble_eq_true rfl, Nat.le_of_ble_eq_true rfl⟩ (Nat.le_of_ble_eq_true rfl) (fun rv20 w20 _ => ?_)
    refine ee_kV ?_
    refine ee_iconst (v := (1 : Int32)) dAL_add1_23 (by decide) ?_
    exact ee_zret rfl dAL_add1_24
  · refine ee_aload_n 0 dAL_add1_16 rfl ?_
    refine ee_getI dAL_add1_17 lfAL_48 (fun v17 _ => ?_)
    refine ee_bind (fun _ ho20 => ?_)
    refine ee_callV (as := [.ref l1, .retAddr 3, .int v17]) (st := []) dAL_add1_20 (t_fAL_add0 l0 l1 (.retAddr 3) v17 w7) my_fAL_add0.1 (Nat.le_of_ble_eq_true rfl) my_fAL_add0.2 rfl cf_11.1 rfl (p_obj_eq.mp ho20) gw_944 gw_946 gw_4 ⟨Nat.le_of_ble_eq_true rfl, Nat.le_of_ble_eq_true rfl⟩ (Nat.le_of_ble_eq_true rfl) (fun rv20 w20 _ => ?_)
    refine ee_kV ?_
    refine ee_iconst (v := (1 : Int32)) dAL_add1_23 (by decide) ?_
    exact ee_zret rfl dAL_add1_24
def fW_tilePart_15 (w : PW) : PX := p_throw "java/lang/IndexOutOfBoundsException" w
set_option maxRecDepth 20000 in
set_option maxHeartbeats 2000000 in
theorem t_fW_tilePart_15 {Γ : PG} : ∀ (w : PW), EE Γ MW_tilePart 15 [] [] w (fW_tilePart_15 w) := by
  intro w
  unfold fW_tilePart_15
  exact ee_throw (text := "no such tile") (names := ["java/lang/RuntimeException", "java/lang/Exception"]) (L4 := 6) (Or.inl rfl) dW_tilePart_15 dW_tilePart_18 (fun _ _ _ _ _ _ _ _ _ _ _ _ _ _ _ _ hx hb ho hz k => va_ldcS hx hb ho hz dW_tilePart_19 k) dW_tilePart_21 dW_tilePart_24 (by decide) (by decide) gw_755 gw_69 oa_95 rfl (by decide +kernel) ⟨Nat.le_of_ble_eq_true rfl, Nat.le_of_ble_eq_true rfl⟩
def fW_tilePart (l0 : Nat) (l1 : Int32) (w : PW) : PX := if l1 < 0 then (fW_tilePart_15 w) else ((p_getR w l0 0 0).bind fun v6 => (p_obj w v6 7).bind fun _ => p_call (fSettings_tiles v6 w) <| p_kI fun v9 w9 => if l1 < v9 then ((p_getR w9 l0 0 1).bind fun v26 => (p_obj w9 v26 11).bind fun _ => p_call (fAL_size v26 w9) <| p_kI fun v29 w29 => if v29 < (40 : Int32) then ((p_getR w29 l0 0 1).bind fun v48 => p_newO w29 8 5 [.int 0, .int 0, .null, .null, .int 0] fun v51 w51 => (p_obj w51 l0 0).bind fun _ => p_call (fW_partsOf l0 l1 w51) <| p_kI fun v58 w58 => p_call (fTilePart_init v51 l1 v58 w58) <| p_kV fun w61 => (p_obj w61 v48 11).bind fun _ => p_call (fAL_add1 v48 v51 w61) <| p_kI fun v64 w64 => (p_getR w64 l0 0 1).bind fun v69 => (p_obj w64 v69 11).bind fun _ => p_call (fAL_size v69 w64) <| p_kI fun v72 w72 => some (.inl (some (.int (v72 - (1 : Int32)))), w72)) else (p_throw "java/lang/UnsupportedOperationException" w29)) else (fW_tilePart_15 w9))
set_option maxRecDepth 20000 in
set_option maxHeartbeats 2000000 in
theorem t_fW_tilePart {Γ : PG} : ∀ (l0 : Nat) (l1 : Int32) (w : PW), EE Γ MW_tilePart 0 (lv_args 0 [.ref l0, .int l1]) [] w (fW_tilePart l0 l1 w) := by
  intro l0 l1 w
  unfold fW_tilePart
  show EE Γ MW_tilePart 0 [(0, .ref l0), (1, .int l1)] [] w _
  refine ee_iload_n 1 dW_tilePart_0 rfl ?_
  refine ee_if_lt (tgt := 15) dW_tilePart_1 (by decide) (fun h1 => ?_) (fun h1 => ?_)
  · refine ee_pick [] rfl ?_
    exact t_fW_tilePart_15 w
  · refine ee_iload_n 1 dW_tilePart_4 rfl ?_
    refine ee_aload_n 0 dW_tilePart_5 rfl ?_
    refine ee_getR dW_tilePart_6 lfW_10 (fun v6 _ => ?_)
    refine ee_bind (fun _ ho9 => ?_)
    refine ee_callV (as := []) (st := [.int l1]) dW_tilePart_9 (t_fSettings_tiles v6 w) my_fSettings_tiles.1 (Nat.le_of_ble_eq_true rfl) my_fSettings_tiles.2 rfl cf_7.1 rfl (p_obj_eq.mp ho9) gw_714 gw_619 gw_620 ⟨Nat.le_of_ble_eq_true rfl, Nat.le_of_ble_eq_true rfl⟩ (Nat.le_of_ble_eq_true rfl) (fun rv9 w9 _ => ?_)
    refine ee_kI (fun v9 => ?_)
    refine ee_icmp_lt (tgt := 25) dW_tilePart_12 (by decide) (fun h12 => ?_) (fun h12 => ?_)
    · refine ee_aload_n 0 dW_tilePart_25 rfl ?_
      refine ee_getR dW_tilePart_26 lfW_19 (fun v26 _ => ?_)
      refine ee_bind (fun _ ho29 => ?_)
      refine ee_callV (as := []) (st := []) dW_tilePart_29 (t_fAL_size v26 w9) my_fAL_size.1 (Nat.le_of_ble_eq_true rfl) my_fAL_size.2 rfl cf_11.1 rfl (p_obj_eq.mp ho29) gw_715 gw_436 gw_437 ⟨Nat.le_of_ble_eq_true rfl, Nat.le_of_ble_eq_true rfl⟩ (Nat.le_of_ble_eq_true rfl) (fun rv29 w29 _ => ?_)
      refine ee_kI (fun v29 => ?_)
      refine ee_bipush (v := (40 : Int32)) dW_tilePart_32 (by decide) ?_
      refine ee_icmp_lt (tgt := 47) dW_tilePart_34 (by decide) (fun h34 => ?_) (fun h34 => ?_)
      · refine ee_aload_n 0 dW_tilePart_47 rfl ?_
        refine ee_getR dW_tilePart_48 lfW_19 (fun v48 _ => ?_)
        refine ee_new dW_tilePart_51 lnW_141 (fun v51 w51 _ _ => ?_)
        refine ee_dup dW_tilePart_54 rfl ?_
        refine ee_iload_n 1 dW_tilePart_55 rfl ?_
        refine ee_aload_n 0 dW_tilePart_56 rfl ?_
        refine ee_iload_n 1 dW_tilePart_57 rfl ?_
        refine ee_bind (fun _ ho58 => ?_)
        refine ee_callV (as := [.int l1]) (st := [.int l1, .ref v51, .ref v51, .ref v48]) dW_tilePart_58 (t_fW_partsOf l0 l1 w51) my_fW_partsOf.1 (Nat.le_of_ble_eq_true rfl) my_fW_partsOf.2 rfl cf_0.1 rfl (p_obj_eq.mp ho58) gw_905 gw_907 gw_3 ⟨Nat.le_of_ble_eq_true rfl, Nat.le_of_ble_eq_true rfl⟩ (Nat.le_of_ble_eq_true rfl) (fun rv58 w58 _ => ?_)
        refine ee_kI (fun v58 => ?_)
        refine ee_callI (as := [.int l1, .int v58]) (st := [.ref v51, .ref v48]) dW_tilePart_61 (t_fTilePart_init v51 l1 v58 w58) my_fTilePart_init.1 (Nat.le_of_ble_eq_true rfl) my_fTilePart_init.2 rfl rfl rfl gw_910 gw_911 ⟨Nat.le_of_ble_eq_true rfl, Nat.le_of_ble_eq_true rfl⟩ (Nat.le_of_ble_eq_true rfl) (fun rv61 w61 _ => ?_)
        refine ee_kV ?_
        refine ee_bind (fun _ ho64 => ?_)
        refine ee_callV (as := [.ref v51]) (st := []) dW_tilePart_64 (t_fAL_add1 v48 v51 w61) my_fAL_add1.1 (Nat.le_of_ble_eq_true rfl) my_fAL_add1.2 rfl cf_11.1 rfl (p_obj_eq.mp ho64) gw_940 gw_941 gw_942 ⟨Nat.le_of_ble_eq_true rfl, Nat.le_of_ble_eq_true rfl⟩ (Nat.le_of_ble_eq_true rfl) (fun rv64 w64 _ => ?_)
        refine ee_kI (fun v64 => ?_)
        refine ee_pop dW_tilePart_67 rfl ?_
        refine ee_aload_n 0 dW_tilePart_68 rfl ?_
        refine ee_getR dW_tilePart_69 lfW_19 (fun v69 _ => ?_)
        refine ee_bind (fun _ ho72 => ?_)
        refine ee_callV (as := []) (st := []) dW_tilePart_72 (t_fAL_size v69 w64) my_fAL_size.1 (Nat.le_of_ble_eq_true rfl) my_fAL_size.2 rfl cf_11.1 rfl (p_obj_eq.mp ho72) gw_715 gw_436 gw_437 ⟨Nat.le_of_ble_eq_true rfl, Nat.le_of_ble_eq_true rfl⟩ (Nat.le_of_ble_eq_true rfl) (fun rv72 w72 _ => ?_)
        refine ee_kI (fun v72 => ?_)
        refine ee_iconst (v := (1 : Int32)) dW_tilePart_75 (by decide) ?_
        refine ee_isub dW_tilePart_76 ?_
        exact ee_iret rfl dW_tilePart_77
      · exact ee_throw (text := "no room for a tile part") (names := ["java/lang/RuntimeException", "java/lang/Exception"]) (L4 := 6) (Or.inl rfl) dW_tilePart_37 dW_tilePart_40 (fun _ _ _ _ _ _ _ _ _ _ _ _ _ _ _ _ hx hb ho hz k => va_ldcS hx hb ho hz dW_tilePart_41 k) dW_tilePart_43 dW_tilePart_46 (by decide) (by decide) gw_887 gw_72 oa_140 rfl (by decide +kernel) ⟨Nat.le_of_ble_eq_true rfl, Nat.le_of_ble_eq_true rfl⟩
    · refine ee_pick [] rfl ?_
      exact t_fW_tilePart_15 w9
def fW_packet_15 (w : PW) : PX := p_throw "java/lang/IndexOutOfBoundsException" w
set_option maxRecDepth 20000 in
set_option maxHeartbeats 2000000 in
theorem t_fW_packet_15 {Γ : PG} : ∀ (w : PW), EE Γ MW_packet 15 [] [] w (fW_packet_15 w) := by
  intro w
  unfold fW_packet_15
  exact ee_throw (text := "no such part") (names := ["java/lang/RuntimeException", "java/lang/Exception"]) (L4 := 6) (Or.inl rfl) dW_packet_15 dW_packet_18 (fun _ _ _ _ _ _ _ _ _ _ _ _ _ _ _ _ hx hb ho hz k => va_ldcS hx hb ho hz dW_packet_19 k) dW_packet_21 dW_packet_24 (by decide) (by decide) gw_755 gw_69 oa_95 rfl (by decide +kernel) ⟨Nat.le_of_ble_eq_true rfl, Nat.le_of_ble_eq_true rfl⟩
def fW_packet (l0 : Nat) (l1 : Int32) (w : PW) : PX := if l1 < 0 then (fW_packet_15 w) else ((p_getR w l0 0 1).bind fun v6 => (p_obj w v6 11).bind fun _ => p_call (fAL_size v6 w) <| p_kI fun v9 w9 => if l1 < v9 then ((p_getR w9 l0 0 1).bind fun v26 => (p_obj w9 v26 11).bind fun _ => p_call (fAL_get v26 l1 w9) <| p_kR fun v30 w30 => (p_obj w30 v30 8).bind fun _ => (p_getI w30 v30 8 4).bind fun v38 => if v38 < (20 : Int32) then ((p_getI w30 v30 8 4).bind fun v58 => (p_put w30 v30 8 4 (.int (v58 + (1 : Int32)))).bind fun w63 => (p_getI w63 v30 8 4).bind fun v67 => some (.inl (some (.int v67)), w63)) else (p_throw "java/lang/UnsupportedOperationException" w30)) else (fW_packet_15 w9))
set_option maxRecDepth 20000 in
set_option maxHeartbeats 2000000 in
theorem t_fW_packet {Γ : PG} : ∀ (l0 : Nat) (l1 : Int32) (w : PW), EE Γ MW_packet 0 (lv_args 0 [.ref l0, .int l1]) [] w (fW_packet l0 l1 w) := by
  intro l0 l1 w
  unfold fW_packet
  show EE Γ MW_packet 0 [(0, .ref l0), (1, .int l1)] [] w _
  refine ee_iload_n 1 dW_packet_0 rfl ?_
  refine ee_if_lt (tgt := 15) dW_packet_1 (by decide) (fun h1 => ?_) (fun h1 => ?_)
  · refine ee_pick [] rfl ?_
    exact t_fW_packet_15 w
  · refine ee_iload_n 1 dW_packet_4 rfl ?_
    refine ee_aload_n 0 dW_packet_5 rfl ?_
    refine ee_getR dW_packet_6 lfW_19 (fun v6 _ => ?_)
    refine ee_bind (fun _ ho9 => ?_)
    refine ee_callV (as := []) (st := [.int l1]) dW_packet_9 (t_fAL_size v6 w) my_fAL_size.1 (Nat.le_of_ble_eq_true rfl) my_fAL_size.2 rfl cf_11.1 rfl (p_obj_eq.mp ho9) gw_715 gw_436 gw_437 ⟨Nat.le_of_ble_eq_true rfl, Nat.le_of_ble_eq_true rfl⟩ (Nat.le_of_ble_eq_true rfl) (fun rv9 w9 _ => ?_)
    refine ee_kI (fun v9 => ?_)
    refine ee_icmp_lt (tgt := 25) dW_packet_12 (by decide) (fun h12 => ?_) (fun h12 => ?_)
    · refine ee_aload_n 0 dW_packet_25 rfl ?_
      refine ee_getR dW_packet_26 lfW_19 (fun v26 _ => ?_)
      refine ee_iload_n 1 dW_packet_29 rfl ?_
      refine ee_bind (fun _ ho30 => ?_)
      refine ee_callV (as := [.int l1]) (st := []) dW_packet_30 (t_fAL_get v26 l1 w9) my_fAL_get.1 (Nat.le_of_ble_eq_true rfl) my_fAL_get.2 rfl cf_11.1 rfl (p_obj_eq.mp ho30) gw_909 gw_440 gw_441 ⟨Nat.le_of_ble_eq_true rfl, Nat.le_of_ble_eq_true rfl⟩ (Nat.le_of_ble_eq_true rfl) (fun rv30 w30 _ => ?_)
      refine ee_kR (fun v30 => ?_)
      refine ee_bind (fun _ ho33 => ?_)
      refine ee_cast dW_packet_33 cf_8.1 gw_903 gw_1612 (p_obj_eq.mp ho33) ?_
      refine ee_astore_n (lv2 := [(2, .ref v30), (0, .ref l0), (1, .int l1)]) dW_packet_36 (Nat.le_of_ble_eq_true rfl) rfl ?_
      refine ee_aload_n 0 dW_packet_37 rfl ?_
      refine ee_getI dW_packet_38 lfW_158 (fun v38 _ => ?_)
      refine ee_bipush (v := (20 : Int32)) dW_packet_41 (by decide) ?_
      refine ee_icmp_lt (tgt := 56) dW_packet_43 (by decide) (fun h43 => ?_) (fun h43 => ?_)
      · refine ee_aload_n 0 dW_packet_56 rfl ?_
        refine ee_dup dW_packet_57 rfl ?_
        refine ee_getI dW_packet_58 lfW_158 (fun v58 _ => ?_)
        refine ee_iconst (v := (1 : Int32)) dW_packet_61 (by decide) ?_
        refine ee_iadd dW_packet_62 ?_
        refine ee_put dW_packet_63 lpW_158 (ee_nI _) (fun w63 _ => ?_)
        refine ee_aload_n 0 dW_packet_66 rfl ?_
        refine ee_getI dW_packet_67 lfW_158 (fun v67 _ => ?_)
        exact ee_iret rfl dW_packet_70
      · exact ee_throw (text := "no room for a packet") (names := ["java/lang/RuntimeException", "java/lang/Exception"]) (L4 := 6) (Or.inl rfl) dW_packet_46 dW_packet_49 (fun _ _ _ _ _ _ _ _ _ _ _ _ _ _ _ _ hx hb ho hz k => va_ldcS hx hb ho hz dW_packet_50 k) dW_packet_52 dW_packet_55 (by decide) (by decide) gw_887 gw_72 oa_140 rfl (by decide +kernel) ⟨Nat.le_of_ble_eq_true rfl, Nat.le_of_ble_eq_true rfl⟩
    · refine ee_pick [] rfl ?_
      exact t_fW_packet_15 w9
def fW_isByte (l0 : Int32) (w : PW) : PX := if l0 < 0 then (p_retZ (0 : Int32) w) else (if (255 : Int32) < l0 then (p_retZ (0 : Int32) w) else (p_retZ (1 : Int32) w))
set_option maxRecDepth 20000 in
set_option maxHeartbeats 2000000 in
theorem t_fW_isByte {Γ : PG} : ∀ (l0 : Int32) (w : PW), EE Γ MW_isByte 0 (lv_args 0 [.int l0]) [] w (fW_isByte l0 w) := by
  intro l0 w
  unfold fW_isByte
  show EE Γ MW_isByte 0 [(0, .int l0)] [] w _
  refine ee_iload_n 0 dW_isByte_0 rfl ?_
  refine ee_if_lt (tgt := 15) dW_isByte_1 (by decide) (fun h1 => ?_) (fun h1 => ?_)
  · refine ee_iconst (v := (0 : Int32)) dW_isByte_15 (by decide) ?_
    exact ee_zret rfl dW_isByte_16
  · refine ee_iload_n 0 dW_isByte_4 rfl ?_
    refine ee_sipush (v := (255 : Int32)) dW_isByte_5 (by decide) ?_
    refine ee_icmp_gt (tgt := 15) dW_isByte_8 (by decide) (fun h8 => ?_) (fun h8 => ?_)
    · refine ee_iconst (v := (0 : Int32)) dW_isByte_15 (by decide) ?_
      exact ee_zret rfl dW_isByte_16
    · refine ee_iconst (v := (1 : Int32)) dW_isByte_11 (by decide) ?_
      refine ee_goto (tgt := 16) dW_isByte_12 (by decide) ?_
      exact ee_zret rfl dW_isByte_16
def fW_byteOf_15 (w : PW) : PX := p_throw "java/lang/IndexOutOfBoundsException" w
set_option maxRecDepth 20000 in
set_option maxHeartbeats 2000000 in
theorem t_fW_byteOf_15 {Γ : PG} : ∀ (w : PW), EE Γ MW_byteOf 15 [] [] w (fW_byteOf_15 w) := by
  intro w
  unfold fW_byteOf_15
  exact ee_throw (text := "no such part") (names := ["java/lang/RuntimeException", "java/lang/Exception"]) (L4 := 6) (Or.inl rfl) dW_byteOf_15 dW_byteOf_18 (fun _ _ _ _ _ _ _ _ _ _ _ _ _ _ _ _ hx hb ho hz k => va_ldcS hx hb ho hz dW_byteOf_19 k) dW_byteOf_21 dW_byteOf_24 (by decide) (by decide) gw_755 gw_69 oa_95 rfl (by decide +kernel) ⟨Nat.le_of_ble_eq_true rfl, Nat.le_of_ble_eq_true rfl⟩
def fW_byteOf (l0 : Nat) (l1 : Int32) (l2 : Int32) (w : PW) : PX := if l1 < 0 then (fW_byteOf_15 w) else ((p_getR w l0 0 1).bind fun v6 => (p_obj w v6 11).bind fun _ => p_call (fAL_size v6 w) <| p_kI fun v9 w9 => if l1 < v9 then ((p_getR w9 l0 0 1).bind fun v26 => (p_obj w9 v26 11).bind fun _ => p_call (fAL_get v26 l1 w9) <| p_kR fun v30 w30 => (p_obj w30 v30 8).bind fun _ => (p_getI w30 v30 8 4).bind fun v38 => if ¬ v38 = 0 then (p_call (fW_isByte l2 w30) <| p_kI fun v55 w55 => if ¬ v55 = 0 then ((p_obj w55 v30 8).bind fun _ => p_call (fTilePart_grow v30 l2 w55) <| p_kI fun v73 w73 => if ¬ v73 = 0 then ((p_getR w73 v30 8 3).bind fun v90 => (p_getI w73 v90 2 2).bind fun v93 => some (.inl (some (.int v93)), w73)) else (p_throw "java/lang/UnsupportedOperationException" w73)) else (p_throw "java/lang/IllegalArgumentException" w55)) else (p_throw "java/lang/IllegalStateException" w30)) else (fW_byteOf_15 w9))
set_option maxRecDepth 20000 in
set_option maxHeartbeats 2000000 in
theorem t_fW_byteOf {Γ : PG} : ∀ (l0 : Nat) (l1 : Int32) (l2 : Int32) (w : PW), EE Γ MW_byteOf 0 (lv_args 0 [.ref l0, .int l1, .int l2]) [] w (fW_byteOf l0 l1 l2 w) := by
  intro l0 l1 l2 w
  unfold fW_byteOf
  show EE Γ MW_byteOf 0 [(0, .ref l0), (1, .int l1), (2, .int l2)] [] w _
  refine ee_iload_n 1 dW_byteOf_0 rfl ?_
  refine ee_if_lt (tgt := 15) dW_byteOf_1 (by decide) (fun h1 => ?_) (fun h1 => ?_)
  · refine ee_pick [] rfl ?_
    exact t_fW_byteOf_15 w
  · refine ee_iload_n 1 dW_byteOf_4 rfl ?_
    refine ee_aload_n 0 dW_byteOf_5 rfl ?_
    refine ee_getR dW_byteOf_6 lfW_19 (fun v6 _ => ?_)
    refine ee_bind (fun _ ho9 => ?_)
    refine ee_callV (as := []) (st := [.int l1]) dW_byteOf_9 (t_fAL_size v6 w) my_fAL_size.1 (Nat.le_of_ble_eq_true rfl) my_fAL_size.2 rfl cf_11.1 rfl (p_obj_eq.mp ho9) gw_715 gw_436 gw_437 ⟨Nat.le_of_ble_eq_true rfl, Nat.le_of_ble_eq_true rfl⟩ (Nat.le_of_ble_eq_true rfl) (fun rv9 w9 _ => ?_)
    refine ee_kI (fun v9 => ?_)
    refine ee_icmp_lt (tgt := 25) dW_byteOf_12 (by decide) (fun h12 => ?_) (fun h12 => ?_)
    · refine ee_aload_n 0 dW_byteOf_25 rfl ?_
      refine ee_getR dW_byteOf_26 lfW_19 (fun v26 _ => ?_)
      refine ee_iload_n 1 dW_byteOf_29 rfl ?_
      refine ee_bind (fun _ ho30 => ?_)
      refine ee_callV (as := [.int l1]) (st := []) dW_byteOf_30 (t_fAL_get v26 l1 w9) my_fAL_get.1 (Nat.le_of_ble_eq_true rfl) my_fAL_get.2 rfl cf_11.1 rfl (p_obj_eq.mp ho30) gw_909 gw_440 gw_441 ⟨Nat.le_of_ble_eq_true rfl, Nat.le_of_ble_eq_true rfl⟩ (Nat.le_of_ble_eq_true rfl) (fun rv30 w30 _ => ?_)
      refine ee_kR (fun v30 => ?_)
      refine ee_bind (fun _ ho33 => ?_)
      refine ee_cast dW_byteOf_33 cf_8.1 gw_903 gw_1612 (p_obj_eq.mp ho33) ?_
      refine ee_astore_n (lv2 := [(3, .ref v30), (0, .ref l0), (1, .int l1), (2, .int l2)]) dW_byteOf_36 (Nat.le_of_ble_eq_true rfl) rfl ?_
      refine ee_aload_n 0 dW_byteOf_37 rfl ?_
      refine ee_getI dW_byteOf_38 lfW_158 (fun v38 _ => ?_)
      refine ee_if_ne (tgt := 54) dW_byteOf_41 (by decide) (fun h41 => ?_) (fun h41 => ?_)
      · refine ee_iload_n 3 dW_byteOf_54 rfl ?_
        refine ee_callS (as := [.int l2]) (st := []) dW_byteOf_55 (t_fW_isByte l2 w30) my_fW_isByte.1 (Nat.le_of_ble_eq_true rfl) my_fW_isByte.2 rfl gw_1012 gw_1013 ⟨Nat.le_of_ble_eq_true rfl, Nat.le_of_ble_eq_true rfl⟩ (Nat.le_of_ble_eq_true rfl) (fun rv55 w55 _ => ?_)
        refine ee_kI (fun v55 => ?_)
        refine ee_if_ne (tgt := 71) dW_byteOf_58 (by decide) (fun h58 => ?_) (fun h58 => ?_)
        · refine ee_aload_n 0 dW_byteOf_71 rfl ?_
          refine ee_iload_n 3 dW_byteOf_72 rfl ?_
          refine ee_bind (fun _ ho73 => ?_)
          refine ee_callV (as := [.int l2]) (st := []) dW_byteOf_73 (t_fTilePart_grow v30 l2 w55) my_fTilePart_grow.1 (Nat.le_of_ble_eq_true rfl) my_fTilePart_grow.2 rfl cf_8.1 rfl (p_obj_eq.mp ho73) gw_1016 gw_1017 gw_1018 ⟨Nat.le_of_ble_eq_true rfl, Nat.le_of_ble_eq_true rfl⟩ (Nat.le_of_ble_eq_true rfl) (fun rv73 w73 _ => ?_)
          refine ee_kI (fun v73 => ?_)
          refine ee_if_ne (tgt := 89) dW_byteOf_76 (by decide) (fun h76 => ?_) (fun h76 => ?_)
          · refine ee_aload_n 0 dW_byteOf_89 rfl ?_
            refine ee_getR dW_byteOf_90 lfW_177 (fun v90 _ => ?_)
            refine ee_getI dW_byteOf_93 lfW_180 (fun v93 _ => ?_)
            exact ee_iret rfl dW_byteOf_96
          · exact ee_throw (text := "no room for a byte") (names := ["java/lang/RuntimeException", "java/lang/Exception"]) (L4 := 6) (Or.inl rfl) dW_byteOf_79 dW_byteOf_82 (fun _ _ _ _ _ _ _ _ _ _ _ _ _ _ _ _ hx hb ho hz k => va_ldcS hx hb ho hz dW_byteOf_83 k) dW_byteOf_85 dW_byteOf_88 (by decide) (by decide) gw_887 gw_72 oa_140 rfl (by decide +kernel) ⟨Nat.le_of_ble_eq_true rfl, Nat.le_of_ble_eq_true rfl⟩
        · exact ee_throw (text := "no byte") (names := ["java/lang/RuntimeException", "java/lang/Exception"]) (L4 := 6) (Or.inl rfl) dW_byteOf_61 dW_byteOf_64 (fun _ _ _ _ _ _ _ _ _ _ _ _ _ _ _ _ hx hb ho hz k => va_ldcS hx hb ho hz dW_byteOf_65 k) dW_byteOf_67 dW_byteOf_70 (by decide) (by decide) gw_852 gw_71 oa_118 rfl (by decide +kernel) ⟨Nat.le_of_ble_eq_true rfl, Nat.le_of_ble_eq_true rfl⟩
      · exact ee_throw (text := "the part has no packet") (names := ["java/lang/RuntimeException", "java/lang/Exception"]) (L4 := 6) (Or.inl rfl) dW_byteOf_44 dW_byteOf_47 (fun _ _ _ _ _ _ _ _ _ _ _ _ _ _ _ _ hx hb ho hz k => va_ldcS hx hb ho hz dW_byteOf_48 k) dW_byteOf_50 dW_byteOf_53 (by decide) (by decide) gw_831 gw_70 oa_109 rfl (by decide +kernel) ⟨Nat.le_of_ble_eq_true rfl, Nat.le_of_ble_eq_true rfl⟩
    · refine ee_pick [] rfl ?_
      exact t_fW_byteOf_15 w9
def fW_isKind_2 : Nat → Int32 → Int32 → PW → PX
  | 0, _, _, _ => none
  | n9 + 1, l0, l1, w => if (32 : Int32) ≤ l1 then (p_retZ (1 : Int32) w) else (p_let (((p_ushr l0 l1) &&& (255 : Int32))) fun (l2_15 : Int32) => if l2_15 < (32 : Int32) then (p_retZ (0 : Int32) w) else (if l2_15 ≤ (126 : Int32) then (p_let (l1 + (8 : Int32)) fun (l1_30 : Int32) => (fW_isKind_2 n9) l0 l1_30 w) else (p_retZ (0 : Int32) w)))
set_option maxRecDepth 20000 in
set_option maxHeartbeats 2000000 in
theorem t_fW_isKind_2 {Γ : PG} : ∀ (n9 : Nat) (l0 : Int32) (l1 : Int32) (w : PW), EE Γ MW_isKind 2 [(0, .int l0), (1, .int l1)] [] w (fW_isKind_2 n9 l0 l1 w) := by
  intro n9
  induction n9 with
  | zero => intro l0 l1 w; exact ee_none
  | succ n9 ih =>
    intro l0 l1 w
    unfold fW_isKind_2
    refine ee_iload_n 1 dW_isKind_2 rfl ?_
    refine ee_bipush (v := (32 : Int32)) dW_isKind_3 (by decide) ?_
    refine ee_icmp_ge (tgt := 36) dW_isKind_5 (by decide) (fun h5 => ?_) (fun h5 => ?_)
    · refine ee_iconst (v := (1 : Int32)) dW_isKind_36 (by decide) ?_
      exact ee_zret rfl dW_isKind_37
    · refine ee_iload_n 0 dW_isKind_8 rfl ?_
      refine ee_iload_n 1 dW_isKind_9 rfl ?_
      refine ee_iushr dW_isKind_10 ?_
      refine ee_sipush (v := (255 : Int32)) dW_isKind_11 (by decide) ?_
      refine ee_iand dW_isKind_14 ?_
      refine ee_letI (fun l2_15 _ => ?_)
      refine ee_istore_n (lv2 := [(2, .int l2_15), (0, .int l0), (1, .int l1)]) dW_isKind_15 (Nat.le_of_ble_eq_true rfl) rfl ?_
      refine ee_iload_n 0 dW_isKind_16 rfl ?_
      refine ee_bipush (v := (32 : Int32)) dW_isKind_17 (by decide) ?_
      refine ee_icmp_lt (tgt := 28) dW_isKind_19 (by decide) (fun h19 => ?_) (fun h19 => ?_)
      · refine ee_iconst (v := (0 : Int32)) dW_isKind_28 (by decide) ?_
        exact ee_zret rfl dW_isKind_29
      · refine ee_iload_n 0 dW_isKind_22 rfl ?_
        refine ee_bipush (v := (126 : Int32)) dW_isKind_23 (by decide) ?_
        refine ee_icmp_le (tgt := 30) dW_isKind_25 (by decide) (fun h25 => ?_) (fun h25 => ?_)
        · refine ee_iinc 2 dW_isKind_30 rfl (e := (8 : Int32)) (by decide) (Nat.le_of_ble_eq_true rfl) (fun l1_30 _ => ?_)
          refine ee_lv (lv2 := [(1, .int l1_30), (2, .int l2_15), (0, .int l0)]) rfl ?_
          refine ee_goto (tgt := 2) dW_isKind_33 (by decide) ?_
          refine ee_pick [2, 0] rfl ?_
          exact ih _ _ w
        · refine ee_iconst (v := (0 : Int32)) dW_isKind_28 (by decide) ?_
          exact ee_zret rfl dW_isKind_29
def fW_isKind (l0 : Int32) (w : PW) : PX := fW_isKind_2 FUEL l0 (0 : Int32) w
set_option maxRecDepth 20000 in
set_option maxHeartbeats 2000000 in
theorem t_fW_isKind {Γ : PG} : ∀ (l0 : Int32) (w : PW), EE Γ MW_isKind 0 (lv_args 0 [.int l0]) [] w (fW_isKind l0 w) := by
  intro l0 w
  unfold fW_isKind
  show EE Γ MW_isKind 0 [(0, .int l0)] [] w _
  refine ee_iconst (v := (0 : Int32)) dW_isKind_0 (by decide) ?_
  refine ee_istore_n (lv2 := [(1, .int (0 : Int32)), (0, .int l0)]) dW_isKind_1 (Nat.le_of_ble_eq_true rfl) rfl ?_
  refine ee_pick [1, 0] rfl ?_
  exact t_fW_isKind_2 FUEL _ _ w
def fW_isOwnKind (l0 : Int32) (w : PW) : PX := if l0 = (1783636000 : Int32) then (p_retZ (1 : Int32) w) else (if l0 = (1718909296 : Int32) then (p_retZ (1 : Int32) w) else (if l0 = (1785737832 : Int32) then (p_retZ (1 : Int32) w) else (if l0 = (1768449138 : Int32) then (p_retZ (1 : Int32) w) else (if ¬ l0 = (1785737827 : Int32) then (p_retZ (0 : Int32) w) else (p_retZ (1 : Int32) w)))))
set_option maxRecDepth 20000 in
set_option maxHeartbeats 2000000 in
theorem t_fW_isOwnKind {Γ : PG} : ∀ (l0 : Int32) (w : PW), EE Γ MW_isOwnKind 0 (lv_args 0 [.int l0]) [] w (fW_isOwnKind l0 w) := by
  intro l0 w
  unfold fW_isOwnKind
  show EE Γ MW_isOwnKind 0 [(0, .int l0)] [] w _
  refine ee_iload_n 0 dW_isOwnKind_0 rfl ?_
  refine ee_ldcw (v := (1783636000 : Int32)) dW_isOwnKind_1 gw_1035 ?_
  refine ee_icmp_eq (tgt := 35) dW_isOwnKind_4 (by decide) (fun h4 => ?_) (fun h4 => ?_)
  · refine ee_iconst (v := (1 : Int32)) dW_isOwnKind_35 (by decide) ?_
    refine ee_goto (tgt := 40) dW_isOwnKind_36 (by decide) ?_
    exact ee_zret rfl dW_isOwnKind_40
  · refine ee_iload_n 0 dW_isOwnKind_7 rfl ?_
    refine ee_ldcw (v := (1718909296 : Int32)) dW_isOwnKind_8 gw_1036 ?_
    refine ee_icmp_eq (tgt := 35) dW_isOwnKind_11 (by decide) (fun h11 => ?_) (fun h11 => ?_)
    · refine ee_iconst (v := (1 : Int32)) dW_isOwnKind_35 (by decide) ?_
      refine ee_goto (tgt := 40) dW_isOwnKind_36 (by decide) ?_
      exact ee_zret rfl dW_isOwnKind_40
    · refine ee_iload_n 0 dW_isOwnKind_14 rfl ?_
      refine ee_ldcw (v := (1785737832 : Int32)) dW_isOwnKind_15 gw_1037 ?_
      refine ee_icmp_eq (tgt := 35) dW_isOwnKind_18 (by decide) (fun h18 => ?_) (fun h18 => ?_)
      · refine ee_iconst (v := (1 : Int32)) dW_isOwnKind_35 (by decide) ?_
        refine ee_goto (tgt := 40) dW_isOwnKind_36 (by decide) ?_
        exact ee_zret rfl dW_isOwnKind_40
      · refine ee_iload_n 0 dW_isOwnKind_21 rfl ?_
        refine ee_ldcw (v := (1768449138 : Int32)) dW_isOwnKind_22 gw_1038 ?_
        refine ee_icmp_eq (tgt := 35) dW_isOwnKind_25 (by decide) (fun h25 => ?_) (fun h25 => ?_)
        · refine ee_iconst (v := (1 : Int32)) dW_isOwnKind_35 (by decide) ?_
          refine ee_goto (tgt := 40) dW_isOwnKind_36 (by decide) ?_
          exact ee_zret rfl dW_isOwnKind_40
        · refine ee_iload_n 0 dW_isOwnKind_28 rfl ?_
          refine ee_ldcw (v := (1785737827 : Int32)) dW_isOwnKind_29 gw_1039 ?_
          refine ee_icmp_ne (tgt := 39) dW_isOwnKind_32 (by decide) (fun h32 => ?_) (fun h32 => ?_)
          · refine ee_iconst (v := (0 : Int32)) dW_isOwnKind_39 (by decide) ?_
            exact ee_zret rfl dW_isOwnKind_40
          · refine ee_iconst (v := (1 : Int32)) dW_isOwnKind_35 (by decide) ?_
            refine ee_goto (tgt := 40) dW_isOwnKind_36 (by decide) ?_
            exact ee_zret rfl dW_isOwnKind_40
def fW_box_14 (w : PW) : PX := p_throw "java/lang/IllegalArgumentException" w
set_option maxRecDepth 20000 in
set_option maxHeartbeats 2000000 in
theorem t_fW_box_14 {Γ : PG} : ∀ (w : PW), EE Γ MW_box 14 [] [] w (fW_box_14 w) := by
  intro w
  unfold fW_box_14
  exact ee_throw (text := "no kind for a box") (names := ["java/lang/RuntimeException", "java/lang/Exception"]) (L4 := 6) (Or.inl rfl) dW_box_14 dW_box_17 (fun _ _ _ _ _ _ _ _ _ _ _ _ _ _ _ _ hx hb ho hz k => va_ldcS hx hb ho hz dW_box_18 k) dW_box_20 dW_box_23 (by decide) (by decide) gw_852 gw_71 oa_118 rfl (by decide +kernel) ⟨Nat.le_of_ble_eq_true rfl, Nat.le_of_ble_eq_true rfl⟩
def fW_box (l0 : Nat) (l1 : Int32) (l2 : Int32) (w : PW) : PX := p_call (fW_isKind l2 w) <| p_kI fun v1 w1 => if v1 = 0 then (fW_box_14 w1) else (p_call (fW_isOwnKind l2 w1) <| p_kI fun v8 w8 => if v8 = 0 then ((p_getR w8 l0 0 2).bind fun v25 => (p_obj w8 v25 11).bind fun _ => p_call (fAL_size v25 w8) <| p_kI fun v28 w28 => if v28 < (8 : Int32) then ((p_getR w28 l0 0 2).bind fun v47 => p_newO w28 4 3 [.int 0, .int 0, .null] fun v50 w50 => p_call (fMadeBox_init v50 l1 l2 w50) <| p_kV fun w56 => (p_obj w56 v47 11).bind fun _ => p_call (fAL_add1 v47 v50 w56) <| p_kI fun v59 w59 => (p_getR w59 l0 0 2).bind fun v64 => (p_obj w59 v64 11).bind fun _ => p_call (fAL_size v64 w59) <| p_kI fun v67 w67 => some (.inl (some (.int (v67 - (1 : Int32)))), w67)) else (p_throw "java/lang/UnsupportedOperationException" w28)) else (fW_box_14 w8))
set_option maxRecDepth 20000 in
set_option maxHeartbeats 2000000 in
theorem t_fW_box {Γ : PG} : ∀ (l0 : Nat) (l1 : Int32) (l2 : Int32) (w : PW), EE Γ MW_box 0 (lv_args 0 [.ref l0, .int l1, .int l2]) [] w (fW_box l0 l1 l2 w) := by
  intro l0 l1 l2 w
  unfold fW_box
  show EE Γ MW_box 0 [(0, .ref l0), (1, .int l1), (2, .int l2)] [] w _
  refine ee_iload_n 2 dW_box_0 rfl ?_
  refine ee_callS (as := [.int l2]) (st := []) dW_box_1 (t_fW_isKind l2 w) my_fW_isKind.1 (Nat.le_of_ble_eq_true rfl) my_fW_isKind.2 rfl gw_1029 gw_1030 ⟨Nat.le_of_ble_eq_true rfl, Nat.le_of_ble_eq_true rfl⟩ (Nat.le_of_ble_eq_true rfl) (fun rv1 w1 _ => ?_)
  refine ee_kI (fun v1 => ?_)
  refine ee_if_eq (tgt := 14) dW_box_4 (by decide) (fun h4 => ?_) (fun h4 => ?_)
  · refine ee_pick [] rfl ?_
    exact t_fW_box_14 w1
  · refine ee_iload_n 2 dW_box_7 rfl ?_
    refine ee_callS (as := [.int l2]) (st := []) dW_box_8 (t_fW_isOwnKind l2 w1) my_fW_isOwnKind.1 (Nat.le_of_ble_eq_true rfl) my_fW_isOwnKind.2 rfl gw_1032 gw_1033 ⟨Nat.le_of_ble_eq_true rfl, Nat.le_of_ble_eq_true rfl⟩ (Nat.le_of_ble_eq_true rfl) (fun rv8 w8 _ => ?_)
    refine ee_kI (fun v8 => ?_)
    refine ee_if_eq (tgt := 24) dW_box_11 (by decide) (fun h11 => ?_) (fun h11 => ?_)
    · refine ee_aload_n 0 dW_box_24 rfl ?_
      refine ee_getR dW_box_25 lfW_23 (fun v25 _ => ?_)
      refine ee_bind (fun _ ho28 => ?_)
      refine ee_callV (as := []) (st := []) dW_box_28 (t_fAL_size v25 w8) my_fAL_size.1 (Nat.le_of_ble_eq_true rfl) my_fAL_size.2 rfl cf_11.1 rfl (p_obj_eq.mp ho28) gw_715 gw_436 gw_437 ⟨Nat.le_of_ble_eq_true rfl, Nat.le_of_ble_eq_true rfl⟩ (Nat.le_of_ble_eq_true rfl) (fun rv28 w28 _ => ?_)
      refine ee_kI (fun v28 => ?_)
      refine ee_bipush (v := (8 : Int32)) dW_box_31 (by decide) ?_
      refine ee_icmp_lt (tgt := 46) dW_box_33 (by decide) (fun h33 => ?_) (fun h33 => ?_)
      · refine ee_aload_n 0 dW_box_46 rfl ?_
        refine ee_getR dW_box_47 lfW_23 (fun v47 _ => ?_)
        refine ee_new dW_box_50 lnW_193 (fun v50 w50 _ _ => ?_)
        refine ee_dup dW_box_53 rfl ?_
        refine ee_iload_n 1 dW_box_54 rfl ?_
        refine ee_iload_n 2 dW_box_55 rfl ?_
        refine ee_callI (as := [.int l1, .int l2]) (st := [.ref v50, .ref v47]) dW_box_56 (t_fMadeBox_init v50 l1 l2 w50) my_fMadeBox_init.1 (Nat.le_of_ble_eq_true rfl) my_fMadeBox_init.2 rfl rfl rfl gw_1044 gw_1045 ⟨Nat.le_of_ble_eq_true rfl, Nat.le_of_ble_eq_true rfl⟩ (Nat.le_of_ble_eq_true rfl) (fun rv56 w56 _ => ?_)
        refine ee_kV ?_
        refine ee_bind (fun _ ho59 => ?_)
        refine ee_callV (as := [.ref v50]) (st := []) dW_box_59 (t_fAL_add1 v47 v50 w56) my_fAL_add1.1 (Nat.le_of_ble_eq_true rfl) my_fAL_add1.2 rfl cf_11.1 rfl (p_obj_eq.mp ho59) gw_940 gw_941 gw_942 ⟨Nat.le_of_ble_eq_true rfl, Nat.le_of_ble_eq_true rfl⟩ (Nat.le_of_ble_eq_true rfl) (fun rv59 w59 _ => ?_)
        refine ee_kI (fun v59 => ?_)
        refine ee_pop dW_box_62 rfl ?_
        refine ee_aload_n 0 dW_box_63 rfl ?_
        refine ee_getR dW_box_64 lfW_23 (fun v64 _ => ?_)
        refine ee_bind (fun _ ho67 => ?_)
        refine ee_callV (as := []) (st := []) dW_box_67 (t_fAL_size v64 w59) my_fAL_size.1 (Nat.le_of_ble_eq_true rfl) my_fAL_size.2 rfl cf_11.1 rfl (p_obj_eq.mp ho67) gw_715 gw_436 gw_437 ⟨Nat.le_of_ble_eq_true rfl, Nat.le_of_ble_eq_true rfl⟩ (Nat.le_of_ble_eq_true rfl) (fun rv67 w67 _ => ?_)
        refine ee_kI (fun v67 => ?_)
        refine ee_iconst (v := (1 : Int32)) dW_box_70 (by decide) ?_
        refine ee_isub dW_box_71 ?_
        exact ee_iret rfl dW_box_72
      · exact ee_throw (text := "no room for a box") (names := ["java/lang/RuntimeException", "java/lang/Exception"]) (L4 := 6) (Or.inl rfl) dW_box_36 dW_box_39 (fun _ _ _ _ _ _ _ _ _ _ _ _ _ _ _ _ hx hb ho hz k => va_ldcS hx hb ho hz dW_box_40 k) dW_box_42 dW_box_45 (by decide) (by decide) gw_887 gw_72 oa_140 rfl (by decide +kernel) ⟨Nat.le_of_ble_eq_true rfl, Nat.le_of_ble_eq_true rfl⟩
    · refine ee_pick [] rfl ?_
      exact t_fW_box_14 w8
def fW_boxByte_15 (w : PW) : PX := p_throw "java/lang/IndexOutOfBoundsException" w
set_option maxRecDepth 20000 in
set_option maxHeartbeats 2000000 in
theorem t_fW_boxByte_15 {Γ : PG} : ∀ (w : PW), EE Γ MW_boxByte 15 [] [] w (fW_boxByte_15 w) := by
  intro w
  unfold fW_boxByte_15
  exact ee_throw (text := "no such box") (names := ["java/lang/RuntimeException", "java/lang/Exception"]) (L4 := 6) (Or.inl rfl) dW_boxByte_15 dW_boxByte_18 (fun _ _ _ _ _ _ _ _ _ _ _ _ _ _ _ _ hx hb ho hz k => va_ldcS hx hb ho hz dW_boxByte_19 k) dW_boxByte_21 dW_boxByte_24 (by decide) (by decide) gw_755 gw_69 oa_95 rfl (by decide +kernel) ⟨Nat.le_of_ble_eq_true rfl, Nat.le_of_ble_eq_true rfl⟩
def fW_boxByte (l0 : Nat) (l1 : Int32) (l2 : Int32) (w : PW) : PX := if l1 < 0 then (fW_boxByte_15 w) else ((p_getR w l0 0 2).bind fun v6 => (p_obj w v6 11).bind fun _ => p_call (fAL_size v6 w) <| p_kI fun v9 w9 => if l1 < v9 then (p_call (fW_isByte l2 w9) <| p_kI fun v26 w26 => if ¬ v26 = 0 then ((p_getR w26 l0 0 2).bind fun v43 => (p_obj w26 v43 11).bind fun _ => p_call (fAL_get v43 l1 w26) <| p_kR fun v47 w47 => (p_obj w47 v47 4).bind fun _ => (p_getR w47 v47 4 2).bind fun v53 => (p_obj w47 v53 2).bind fun _ => p_call (fBytes_append v53 l2 w47) <| p_kI fun v59 w59 => if ¬ v59 = 0 then ((p_getI w59 v53 2 2).bind fun v76 => some (.inl (some (.int v76)), w59)) else (p_throw "java/lang/UnsupportedOperationException" w59)) else (p_throw "java/lang/IllegalArgumentException" w26)) else (fW_boxByte_15 w9))
set_option maxRecDepth 20000 in
set_option maxHeartbeats 2000000 in
theorem t_fW_boxByte {Γ : PG} : ∀ (l0 : Nat) (l1 : Int32) (l2 : Int32) (w : PW), EE Γ MW_boxByte 0 (lv_args 0 [.ref l0, .int l1, .int l2]) [] w (fW_boxByte l0 l1 l2 w) := by
  intro l0 l1 l2 w
  unfold fW_boxByte
  show EE Γ MW_boxByte 0 [(0, .ref l0), (1, .int l1), (2, .int l2)] [] w _
  refine ee_iload_n 1 dW_boxByte_0 rfl ?_
  refine ee_if_lt (tgt := 15) dW_boxByte_1 (by decide) (fun h1 => ?_) (fun h1 => ?_)
  · refine ee_pick [] rfl ?_
    exact t_fW_boxByte_15 w
  · refine ee_iload_n 1 dW_boxByte_4 rfl ?_
    refine ee_aload_n 0 dW_boxByte_5 rfl ?_
    refine ee_getR dW_boxByte_6 lfW_23 (fun v6 _ => ?_)
    refine ee_bind (fun _ ho9 => ?_)
    refine ee_callV (as := []) (st := [.int l1]) dW_boxByte_9 (t_fAL_size v6 w) my_fAL_size.1 (Nat.le_of_ble_eq_true rfl) my_fAL_size.2 rfl cf_11.1 rfl (p_obj_eq.mp ho9) gw_715 gw_436 gw_437 ⟨Nat.le_of_ble_eq_true rfl, Nat.le_of_ble_eq_true rfl⟩ (Nat.le_of_ble_eq_true rfl) (fun rv9 w9 _ => ?_)
    refine ee_kI (fun v9 => ?_)
    refine ee_icmp_lt (tgt := 25) dW_boxByte_12 (by decide) (fun h12 => ?_) (fun h12 => ?_)
    · refine ee_iload_n 2 dW_boxByte_25 rfl ?_
      refine ee_callS (as := [.int l2]) (st := []) dW_boxByte_26 (t_fW_isByte l2 w9) my_fW_isByte.1 (Nat.le_of_ble_eq_true rfl) my_fW_isByte.2 rfl gw_1012 gw_1013 ⟨Nat.le_of_ble_eq_true rfl, Nat.le_of_ble_eq_true rfl⟩ (Nat.le_of_ble_eq_true rfl) (fun rv26 w26 _ => ?_)
      refine ee_kI (fun v26 => ?_)
      refine ee_if_ne (tgt := 42) dW_boxByte_29 (by decide) (fun h29 => ?_) (fun h29 => ?_)
      · refine ee_aload_n 0 dW_boxByte_42 rfl ?_
        refine ee_getR dW_boxByte_43 lfW_23 (fun v43 _ => ?_)
        refine ee_iload_n 1 dW_boxByte_46 rfl ?_
        refine ee_bind (fun _ ho47 => ?_)
        refine ee_callV (as := [.int l1]) (st := []) dW_boxByte_47 (t_fAL_get v43 l1 w26) my_fAL_get.1 (Nat.le_of_ble_eq_true rfl) my_fAL_get.2 rfl cf_11.1 rfl (p_obj_eq.mp ho47) gw_909 gw_440 gw_441 ⟨Nat.le_of_ble_eq_true rfl, Nat.le_of_ble_eq_true rfl⟩ (Nat.le_of_ble_eq_true rfl) (fun rv47 w47 _ => ?_)
        refine ee_kR (fun v47 => ?_)
        refine ee_bind (fun _ ho50 => ?_)
        refine ee_cast dW_boxByte_50 cf_4.1 gw_1042 gw_1611 (p_obj_eq.mp ho50) ?_
        refine ee_getR dW_boxByte_53 lfW_200 (fun v53 _ => ?_)
        refine ee_astore_n (lv2 := [(3, .ref v53), (0, .ref l0), (1, .int l1), (2, .int l2)]) dW_boxByte_56 (Nat.le_of_ble_eq_true rfl) rfl ?_
        refine ee_aload_n 0 dW_boxByte_57 rfl ?_
        refine ee_iload_n 3 dW_boxByte_58 rfl ?_
        refine ee_bind (fun _ ho59 => ?_)
        refine ee_callV (as := [.int l2]) (st := []) dW_boxByte_59 (t_fBytes_append v53 l2 w47) my_fBytes_append.1 (Nat.le_of_ble_eq_true rfl) my_fBytes_append.2 rfl cf_2.1 rfl (p_obj_eq.mp ho59) gw_1072 gw_378 gw_379 ⟨Nat.le_of_ble_eq_true rfl, Nat.le_of_ble_eq_true rfl⟩ (Nat.le_of_ble_eq_true rfl) (fun rv59 w59 _ => ?_)
        refine ee_kI (fun v59 => ?_)
        refine ee_if_ne (tgt := 75) dW_boxByte_62 (by decide) (fun h62 => ?_) (fun h62 => ?_)
        · refine ee_aload_n 0 dW_boxByte_75 rfl ?_
          refine ee_getI dW_boxByte_76 lfW_180 (fun v76 _ => ?_)
          exact ee_iret rfl dW_boxByte_79
        · exact ee_throw (text := "no room for a byte") (names := ["java/lang/RuntimeException", "java/lang/Exception"]) (L4 := 6) (Or.inl rfl) dW_boxByte_65 dW_boxByte_68 (fun _ _ _ _ _ _ _ _ _ _ _ _ _ _ _ _ hx hb ho hz k => va_ldcS hx hb ho hz dW_boxByte_69 k) dW_boxByte_71 dW_boxByte_74 (by decide) (by decide) gw_887 gw_72 oa_140 rfl (by decide +kernel) ⟨Nat.le_of_ble_eq_true rfl, Nat.le_of_ble_eq_true rfl⟩
      · exact ee_throw (text := "no byte") (names := ["java/lang/RuntimeException", "java/lang/Exception"]) (L4 := 6) (Or.inl rfl) dW_boxByte_32 dW_boxByte_35 (fun _ _ _ _ _ _ _ _ _ _ _ _ _ _ _ _ hx hb ho hz k => va_ldcS hx hb ho hz dW_boxByte_36 k) dW_boxByte_38 dW_boxByte_41 (by decide) (by decide) gw_852 gw_71 oa_118 rfl (by decide +kernel) ⟨Nat.le_of_ble_eq_true rfl, Nat.le_of_ble_eq_true rfl⟩
    · refine ee_pick [] rfl ?_
      exact t_fW_boxByte_15 w9
def fW_write (l0 : Nat) (w : PW) : PX := (p_getR w l0 0 3).bind fun v1 => (p_obj w v1 9).bind fun _ => p_call (fWriter_begin v1 w) <| p_kV fun w4 => (p_getR w4 l0 0 3).bind fun v8 => (p_getR w4 l0 0 0).bind fun v12 => (p_getR w4 l0 0 2).bind fun v16 => (p_obj w4 v8 9).bind fun _ => p_call (fWriter_headBoxes v8 v12 v16 w4) <| p_kV fun w19 => (p_getR w19 l0 0 3).bind fun v23 => (p_getR w19 l0 0 2).bind fun v27 => (p_obj w19 v23 9).bind fun _ => p_call (fWriter_madeBoxes v23 v27 (0 : Int32) w19) <| p_kV fun w31 => (p_getR w31 l0 0 3).bind fun v35 => (p_getR w31 l0 0 0).bind fun v39 => (p_getR w31 l0 0 1).bind fun v43 => (p_obj w31 v35 9).bind fun _ => p_call (fWriter_streamBox v35 v39 v43 w31) <| p_kV fun w46 => (p_getR w46 l0 0 3).bind fun v50 => (p_getR w46 v50 9 0).bind fun v53 => (p_getI w46 v53 2 2).bind fun v56 => some (.inl (some (.int v56)), w46)
set_option maxRecDepth 20000 in
set_option maxHeartbeats 2000000 in
theorem t_fW_write {Γ : PG} : ∀ (l0 : Nat) (w : PW), EE Γ MW_write 0 (lv_args 0 [.ref l0]) [] w (fW_write l0 w) := by
  intro l0 w
  unfold fW_write
  show EE Γ MW_write 0 [(0, .ref l0)] [] w _
  refine ee_aload_n 0 dW_write_0 rfl ?_
  refine ee_getR dW_write_1 lfW_29 (fun v1 _ => ?_)
  refine ee_bind (fun _ ho4 => ?_)
  refine ee_callV (as := []) (st := []) dW_write_4 (t_fWriter_begin v1 w) my_fWriter_begin.1 (Nat.le_of_ble_eq_true rfl) my_fWriter_begin.2 rfl cf_9.1 rfl (p_obj_eq.mp ho4) gw_360 gw_361 gw_362 ⟨Nat.le_of_ble_eq_true rfl, Nat.le_of_ble_eq_true rfl⟩ (Nat.le_of_ble_eq_true rfl) (fun rv4 w4 _ => ?_)
  refine ee_kV ?_
  refine ee_aload_n 0 dW_write_7 rfl ?_
  refine ee_getR dW_write_8 lfW_29 (fun v8 _ => ?_)
  refine ee_aload_n 0 dW_write_11 rfl ?_
  refine ee_getR dW_write_12 lfW_10 (fun v12 _ => ?_)
  refine ee_aload_n 0 dW_write_15 rfl ?_
  refine ee_getR dW_write_16 lfW_23 (fun v16 _ => ?_)
  refine ee_bind (fun _ ho19 => ?_)
  refine ee_callV (as := [.ref v12, .ref v16]) (st := []) dW_write_19 (t_fWriter_headBoxes v8 v12 v16 w4) my_fWriter_headBoxes.1 (Nat.le_of_ble_eq_true rfl) my_fWriter_headBoxes.2 rfl cf_9.1 rfl (p_obj_eq.mp ho19) gw_364 gw_365 gw_366 ⟨Nat.le_of_ble_eq_true rfl, Nat.le_of_ble_eq_true rfl⟩ (Nat.le_of_ble_eq_true rfl) (fun rv19 w19 _ => ?_)
  refine ee_kV ?_
  refine ee_aload_n 0 dW_write_22 rfl ?_
  refine ee_getR dW_write_23 lfW_29 (fun v23 _ => ?_)
  refine ee_aload_n 0 dW_write_26 rfl ?_
  refine ee_getR dW_write_27 lfW_23 (fun v27 _ => ?_)
  refine ee_iconst (v := (0 : Int32)) dW_write_30 (by decide) ?_
  refine ee_bind (fun _ ho31 => ?_)
  refine ee_callV (as := [.ref v27, .int (0 : Int32)]) (st := []) dW_write_31 (t_fWriter_madeBoxes v23 v27 (0 : Int32) w19) my_fWriter_madeBoxes.1 (Nat.le_of_ble_eq_true rfl) my_fWriter_madeBoxes.2 rfl cf_9.1 rfl (p_obj_eq.mp ho31) gw_462 gw_432 gw_433 ⟨Nat.le_of_ble_eq_true rfl, Nat.le_of_ble_eq_true rfl⟩ (Nat.le_of_ble_eq_true rfl) (fun rv31 w31 _ => ?_)
  refine ee_kV ?_
  refine ee_aload_n 0 dW_write_34 rfl ?_
  refine ee_getR dW_write_35 lfW_29 (fun v35 _ => ?_)
  refine ee_aload_n 0 dW_write_38 rfl ?_
  refine ee_getR dW_write_39 lfW_10 (fun v39 _ => ?_)
  refine ee_aload_n 0 dW_write_42 rfl ?_
  refine ee_getR dW_write_43 lfW_19 (fun v43 _ => ?_)
  refine ee_bind (fun _ ho46 => ?_)
  refine ee_callV (as := [.ref v39, .ref v43]) (st := []) dW_write_46 (t_fWriter_streamBox v35 v39 v43 w31) my_fWriter_streamBox.1 (Nat.le_of_ble_eq_true rfl) my_fWriter_streamBox.2 rfl cf_9.1 rfl (p_obj_eq.mp ho46) gw_463 gw_464 gw_465 ⟨Nat.le_of_ble_eq_true rfl, Nat.le_of_ble_eq_true rfl⟩ (Nat.le_of_ble_eq_true rfl) (fun rv46 w46 _ => ?_)
  refine ee_kV ?_
  refine ee_aload_n 0 dW_write_49 rfl ?_
  refine ee_getR dW_write_50 lfW_29 (fun v50 _ => ?_)
  refine ee_getR dW_write_53 lfW_218 (fun v53 _ => ?_)
  refine ee_getI dW_write_56 lfW_180 (fun v56 _ => ?_)
  exact ee_iret rfl dW_write_59
