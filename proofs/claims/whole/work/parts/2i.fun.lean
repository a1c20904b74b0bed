def fArraysSupport_newLength_21 (l0 : Int32) (l1 : Int32) (w : PW) : PX := none
set_option maxRecDepth 20000 in
set_option maxHeartbeats 2000000 in
theorem t_fArraysSupport_newLength_21 {Γ : PG} : ∀ (l0 : Int32) (l1 : Int32) (w : PW), EE Γ MArraysSupport_newLength 21 [(0, .int l0), (1, .int l1)] [] w (fArraysSupport_newLength_21 l0 l1 w) := by
  intro l0 l1 w
  unfold fArraysSupport_newLength_21
  refine ee_iload_n 0 dArraysSupport_newLength_21 rfl ?_
  refine ee_iload_n 1 dArraysSupport_newLength_22 rfl ?_
  exact ee_none
def fArraysSupport_newLength (l0 : Int32) (l1 : Int32) (l2 : Int32) (w : PW) : PX := p_let ((l0 + (p_max l1 l2))) fun (l3_7 : Int32) => if l3_7 ≤ (0 : Int32) then (fArraysSupport_newLength_21 l0 l1 w) else (if (2147483639 : Int32) < l3_7 then (fArraysSupport_newLength_21 l0 l1 w) else (some (.inl (some (.int l3_7)), w)))
set_option maxRecDepth 20000 in
set_option maxHeartbeats 2000000 in
theorem t_fArraysSupport_newLength {Γ : PG} : ∀ (l0 : Int32) (l1 : Int32) (l2 : Int32) (w : PW), EE Γ MArraysSupport_newLength 0 (lv_args 0 [.int l0, .int l1, .int l2]) [] w (fArraysSupport_newLength l0 l1 l2 w) := by
  intro l0 l1 l2 w
  unfold fArraysSupport_newLength
  show EE Γ MArraysSupport_newLength 0 [(0, .int l0), (1, .int l1), (2, .int l2)] [] w _
  refine ee_iload_n 0 dArraysSupport_newLength_0 rfl ?_
  refine ee_iload_n 1 dArraysSupport_newLength_1 rfl ?_
  refine ee_iload_n 2 dArraysSupport_newLength_2 rfl ?_
  refine ee_mmax dArraysSupport_newLength_3 gw_959 gw_mmaxs gw_mi gw_mmaxc ⟨Nat.le_of_ble_eq_true rfl, Nat.le_of_ble_eq_true rfl⟩ ?_
  refine ee_iadd dArraysSupport_newLength_6 ?_
  refine ee_letI (fun l3_7 _ => ?_)
  refine ee_istore_n (lv2 := [(3, .int l3_7), (0, .int l0), (1, .int l1), (2, .int l2)]) dArraysSupport_newLength_7 (Nat.le_of_ble_eq_true rfl) rfl ?_
  refine ee_iconst (v := (0 : Int32)) dArraysSupport_newLength_8 (by decide) ?_
  refine ee_iload_n 0 dArraysSupport_newLength_9 rfl ?_
  refine ee_icmp_ge (tgt := 21) dArraysSupport_newLength_10 (by decide) (fun h10 => ?_) (fun h10 => ?_)
  · refine ee_pick [1, 2] rfl ?_
    exact t_fArraysSupport_newLength_21 _ _ w
  · refine ee_iload_n 0 dArraysSupport_newLength_13 rfl ?_
    refine ee_ldc (v := (2147483639 : Int32)) dArraysSupport_newLength_14 gw_960 ?_
    refine ee_icmp_gt (tgt := 21) dArraysSupport_newLength_16 (by decide) (fun h16 => ?_) (fun h16 => ?_)
    · refine ee_pick [1, 2] rfl ?_
      exact t_fArraysSupport_newLength_21 _ _ w
    · refine ee_iload_n 0 dArraysSupport_newLength_19 rfl ?_
      exact ee_iret rfl dArraysSupport_newLength_20
def fAR_copyOf1_24 (l0 : Nat) (l1 : Int32) (s0 : Nat) (w : PW) : PX := (p_len w l0).bind fun v30 => (p_copyR w l0 (0 : Int32) s0 (0 : Int32) (p_min v30 l1)).bind fun w35 => some (.inl (some (.ref s0)), w35)
set_option maxRecDepth 20000 in
set_option maxHeartbeats 2000000 in
theorem t_fAR_copyOf1_24 {Γ : PG} : ∀ (l0 : Nat) (l1 : Int32) (s0 : Nat) (w : PW), EE Γ MAR_copyOf1 24 [(0, .ref l0), (1, .int l1)] [.ref s0] w (fAR_copyOf1_24 l0 l1 s0 w) := by
  intro l0 l1 s0 w
  unfold fAR_copyOf1_24
  refine ee_astore_n (lv2 := [(3, .ref s0), (0, .ref l0), (1, .int l1)]) dAR_copyOf1_24 (Nat.le_of_ble_eq_true rfl) rfl ?_
  refine ee_aload_n 1 dAR_copyOf1_25 rfl ?_
  refine ee_iconst (v := (0 : Int32)) dAR_copyOf1_26 (by decide) ?_
  refine ee_aload_n 0 dAR_copyOf1_27 rfl ?_
  refine ee_iconst (v := (0 : Int32)) dAR_copyOf1_28 (by decide) ?_
  refine ee_aload_n 1 dAR_copyOf1_29 rfl ?_
  refine ee_alen dAR_copyOf1_30 (fun v30 _ => ?_)
  refine ee_iload_n 2 dAR_copyOf1_31 rfl ?_
  refine ee_mmin dAR_copyOf1_32 gw_392 gw_mmins gw_mi gw_mminc ⟨Nat.le_of_ble_eq_true rfl, Nat.le_of_ble_eq_true rfl⟩ ?_
  refine ee_copyR dAR_copyOf1_35 gw_393 gw_395 gw_394 gw_78 ⟨Nat.le_of_ble_eq_true rfl, by decide⟩ (fun w35 _ => ?_)
  refine ee_aload_n 0 dAR_copyOf1_38 rfl ?_
  exact ee_aret rfl (Or.inr ⟨_, rfl⟩) dAR_copyOf1_39
def fAR_copyOf1 (l0 : Nat) (l1 : Int32) (w : PW) : PX := p_newR w l1 fun v7 w7 => fAR_copyOf1_24 l0 l1 v7 w7
set_option maxRecDepth 20000 in
set_option maxHeartbeats 2000000 in
theorem t_fAR_copyOf1 {Γ : PG} : ∀ (l0 : Nat) (l1 : Int32) (w : PW), EE Γ MAR_copyOf1 0 (lv_args 0 [.ref l0, .int l1, .retAddr 4]) [] w (fAR_copyOf1 l0 l1 w) := by
  intro l0 l1 w
  unfold fAR_copyOf1
  show EE Γ MAR_copyOf1 0 [(0, .ref l0), (1, .int l1), (2, .retAddr 4)] [] w _
  refine ee_aload_nT 2 dAR_copyOf1_0 rfl ?_
  refine ee_ldcM dAR_copyOf1_1 gw_990 ?_
  refine ee_acmpneTT (tgt := 13) dAR_copyOf1_3 (by decide) ?_
  refine ee_iload_n 1 dAR_copyOf1_6 rfl ?_
  refine ee_newR dAR_copyOf1_7 gw_992 (fun v7 w7 _ _ _ => ?_)
  refine ee_goto (tgt := 24) dAR_copyOf1_10 (by decide) ?_
  refine ee_pick [0, 1] rfl ?_
  exact t_fAR_copyOf1_24 _ _ _ w7
def fAR_copyOf0 (l0 : Nat) (l1 : Int32) (w : PW) : PX := (p_arrR w l0).bind fun _ => p_call (fAR_copyOf1 l0 l1 w) <| p_kR fun v6 w6 => some (.inl (some (.ref v6)), w6)
set_option maxRecDepth 20000 in
set_option maxHeartbeats 2000000 in
theorem t_fAR_copyOf0 {Γ : PG} : ∀ (l0 : Nat) (l1 : Int32) (w : PW), EE Γ MAR_copyOf0 0 (lv_args 0 [.ref l0, .int l1]) [] w (fAR_copyOf0 l0 l1 w) := by
  intro l0 l1 w
  unfold fAR_copyOf0
  show EE Γ MAR_copyOf0 0 [(0, .ref l0), (1, .int l1)] [] w _
  refine ee_aload_n 0 dAR_copyOf0_0 rfl ?_
  refine ee_iload_n 1 dAR_copyOf0_1 rfl ?_
  refine ee_aload_n 0 dAR_copyOf0_2 rfl ?_
  refine ee_bind (fun _ ha3 => ?_)
  refine ee_getC dAR_copyOf0_3 ha3 gw_967 gw_1615 gw_1614 gw_968 gw_986 ⟨Nat.le_of_ble_eq_true rfl, Nat.le_of_ble_eq_true rfl⟩ ?_
  refine ee_callS (as := [.ref l0, .int l1, .retAddr 4]) (st := []) dAR_copyOf0_6 (t_fAR_copyOf1 l0 l1 w) my_fAR_copyOf1.1 (Nat.le_of_ble_eq_true rfl) my_fAR_copyOf1.2 rfl gw_987 gw_988 ⟨Nat.le_of_ble_eq_true rfl, Nat.le_of_ble_eq_true rfl⟩ (Nat.le_of_ble_eq_true rfl) (fun rv6 w6 _ => ?_)
  refine ee_kR (fun v6 => ?_)
  exact ee_aret rfl (Or.inr ⟨_, rfl⟩) dAR_copyOf0_9
def fAL_grow0_20 (l0 : Nat) (l1 : Int32) (l2 : Int32) (w : PW) : PX := p_call (fArraysSupport_newLength l2 (l1 - l2) (p_ishr l2 (1 : Int32)) w) <| p_kI fun v27 w27 => (p_getV w27 l0 11 1).bind fun v9 => p_spl v9 (fun v33 => p_call (fAR_copyOf0 v33 v27 w27) <| p_kR fun v37 w37 => (p_put w37 l0 11 1 (.ref v37)).bind fun w41 => some (.inl (some (.ref v37)), w41)) (none)
set_option maxRecDepth 20000 in
set_option maxHeartbeats 2000000 in
theorem t_fAL_grow0_20 {Γ : PG} : ∀ (l0 : Nat) (l1 : Int32) (l2 : Int32) (w : PW), EE Γ MAL_grow0 20 [(0, .ref l0), (1, .int l1), (2, .int l2)] [] w (fAL_grow0_20 l0 l1 l2 w) := by
  intro l0 l1 l2 w
  unfold fAL_grow0_20
  refine ee_iload_n 2 dAL_grow0_20 rfl ?_
  refine ee_iload_n 1 dAL_grow0_21 rfl ?_
  refine ee_iload_n 2 dAL_grow0_22 rfl ?_
  refine ee_isub dAL_grow0_23 ?_
  refine ee_iload_n 2 dAL_grow0_24 rfl ?_
  refine ee_iconst (v := (1 : Int32)) dAL_grow0_25 (by decide) ?_
  refine ee_ishr dAL_grow0_26 ?_
  refine ee_callS (as := [.int l2, .int (l1 - l2), .int (p_ishr l2 (1 : Int32))]) (st := []) dAL_grow0_27 (t_fArraysSupport_newLength l2 (l1 - l2) (p_ishr l2 (1 : Int32)) w) my_fArraysSupport_newLength.1 (Nat.le_of_ble_eq_true rfl) my_fArraysSupport_newLength.2 rfl gw_956 gw_957 ⟨Nat.le_of_ble_eq_true rfl, Nat.le_of_ble_eq_true rfl⟩ (Nat.le_of_ble_eq_true rfl) (fun rv27 w27 _ => ?_)
  refine ee_kI (fun v27 => ?_)
  refine ee_istore_n (lv2 := [(3, .int v27), (0, .ref l0), (1, .int l1), (2, .int l2)]) dAL_grow0_30 (Nat.le_of_ble_eq_true rfl) rfl ?_
  refine ee_aload_n 1 dAL_grow0_31 rfl ?_
  refine ee_aload_n 1 dAL_grow0_32 rfl ?_
  refine ee_getV dAL_grow0_33 lfAL_9 (fun v33 => ?_) ?_
  · refine ee_iload_n 0 dAL_grow0_36 rfl ?_
    refine ee_callS (as := [.ref v33, .int v27]) (st := [.ref l0]) dAL_grow0_37 (t_fAR_copyOf0 v33 v27 w27) my_fAR_copyOf0.1 (Nat.le_of_ble_eq_true rfl) my_fAR_copyOf0.2 rfl gw_964 gw_965 ⟨Nat.le_of_ble_eq_true rfl, Nat.le_of_ble_eq_true rfl⟩ (Nat.le_of_ble_eq_true rfl) (fun rv37 w37 _ => ?_)
    refine ee_kR (fun v37 => ?_)
    refine ee_dup_x1 dAL_grow0_40 rfl rfl ?_
    refine ee_put dAL_grow0_41 lpAL_9 (ee_nRA _ _) (fun w41 _ => ?_)
    exact ee_aret rfl (Or.inr ⟨_, rfl⟩) dAL_grow0_44
  · refine ee_iload_n 0 dAL_grow0_36 rfl ?_
    exact ee_none
def fAL_grow0 (l0 : Nat) (l1 : Int32) (w : PW) : PX := (p_getV w l0 11 1).bind fun v9 => p_spl v9 (fun v1 => (p_len w v1).bind fun v4 => if 0 < v4 then (fAL_grow0_20 l0 l1 v4 w) else ((p_getV w l0 11 1).bind fun v9 => p_spl v9 (fun v11 => (w.1[v11]?).bind fun _ => fAL_grow0_20 l0 l1 v4 w) (p_newR w (p_max (10 : Int32) l1) fun v52 w52 => (p_put w52 l0 11 1 (.ref v52)).bind fun w56 => some (.inl (some (.ref v52)), w56)))) (if 0 < (0 : Int32) then (fAL_grow0_20 l0 l1 (0 : Int32) w) else ((p_getV w l0 11 1).bind fun v9 => p_spl v9 (fun v11 => (w.1[v11]?).bind fun _ => fAL_grow0_20 l0 l1 (0 : Int32) w) (p_newR w (p_max (10 : Int32) l1) fun v52 w52 => (p_put w52 l0 11 1 (.ref v52)).bind fun w56 => some (.inl (some (.ref v52)), w56))))
set_option maxRecDepth 20000 in
set_option maxHeartbeats 2000000 in
theorem t_fAL_grow0 {Γ : PG} : ∀ (l0 : Nat) (l1 : Int32) (w : PW), EE Γ MAL_grow0 0 (lv_args 0 [.ref l0, .int l1]) [] w (fAL_grow0 l0 l1 w) := by
  intro l0 l1 w
  unfold fAL_grow0
  show EE Γ MAL_grow0 0 [(0, .ref l0), (1, .int l1)] [] w _
  refine ee_aload_n 0 dAL_grow0_0 rfl ?_
  refine ee_getV dAL_grow0_1 lfAL_9 (fun v1 => ?_) ?_
  · refine ee_alen dAL_grow0_4 (fun v4 _ => ?_)
    refine ee_istore_n (lv2 := [(2, .int v4), (0, .ref l0), (1, .int l1)]) dAL_grow0_5 (Nat.le_of_ble_eq_true rfl) rfl ?_
    refine ee_iload_n 0 dAL_grow0_6 rfl ?_
    refine ee_if_gt (tgt := 20) dAL_grow0_7 (by decide) (fun h7 => ?_) (fun h7 => ?_)
    · refine ee_pick [1, 2, 0] rfl ?_
      exact t_fAL_grow0_20 _ _ _ w
    · refine ee_aload_n 1 dAL_grow0_10 rfl ?_
      refine ee_getV dAL_grow0_11 lfAL_9 (fun v11 => ?_) ?_
      · refine ee_getsE dAL_grow0_14 gw_138 ?_
        refine ee_bind (fun _ hx17 => ?_)
        refine ee_acmpRT (tgt := 45) dAL_grow0_17 (by decide) hx17 ?_
        refine ee_pick [1, 2, 0] rfl ?_
        exact t_fAL_grow0_20 _ _ _ w
      · refine ee_getsE dAL_grow0_14 gw_138 ?_
        refine ee_acmpTT (tgt := 45) dAL_grow0_17 (by decide) ?_
        refine ee_aload_n 1 dAL_grow0_45 rfl ?_
        refine ee_bipush (v := (10 : Int32)) dAL_grow0_46 (by decide) ?_
        refine ee_iload_n 2 dAL_grow0_48 rfl ?_
        refine ee_mmax dAL_grow0_49 gw_993 gw_mmaxs gw_mi gw_mmaxc ⟨Nat.le_of_ble_eq_true rfl, Nat.le_of_ble_eq_true rfl⟩ ?_
        refine ee_newR dAL_grow0_52 gw_994 (fun v52 w52 _ _ _ => ?_)
        refine ee_dup_x1 dAL_grow0_55 rfl rfl ?_
        refine ee_put dAL_grow0_56 lpAL_9 (ee_nRA _ _) (fun w56 _ => ?_)
        exact ee_aret rfl (Or.inr ⟨_, rfl⟩) dAL_grow0_59
  · refine ee_tlenE dAL_grow0_4 ?_
    refine ee_istore_n (lv2 := [(2, .int (0 : Int32)), (0, .ref l0), (1, .int l1)]) dAL_grow0_5 (Nat.le_of_ble_eq_true rfl) rfl ?_
    refine ee_iload_n 0 dAL_grow0_6 rfl ?_
    refine ee_if_gt (tgt := 20) dAL_grow0_7 (by decide) (fun h7 => ?_) (fun h7 => ?_)
    · refine ee_pick [1, 2, 0] rfl ?_
      exact t_fAL_grow0_20 _ _ _ w
    · refine ee_aload_n 1 dAL_grow0_10 rfl ?_
      refine ee_getV dAL_grow0_11 lfAL_9 (fun v11 => ?_) ?_
      · refine ee_getsE dAL_grow0_14 gw_138 ?_
        refine ee_bind (fun _ hx17 => ?_)
        refine ee_acmpRT (tgt := 45) dAL_grow0_17 (by decide) hx17 ?_
        refine ee_pick [1, 2, 0] rfl ?_
        exact t_fAL_grow0_20 _ _ _ w
      · refine ee_getsE dAL_grow0_14 gw_138 ?_
        refine ee_acmpTT (tgt := 45) dAL_grow0_17 (by decide) ?_
        refine ee_aload_n 1 dAL_grow0_45 rfl ?_
        refine ee_bipush (v := (10 : Int32)) dAL_grow0_46 (by decide) ?_
        refine ee_iload_n 2 dAL_grow0_48 rfl ?_
        refine ee_mmax dAL_grow0_49 gw_993 gw_mmaxs gw_mi gw_mmaxc ⟨Nat.le_of_ble_eq_true rfl, Nat.le_of_ble_eq_true rfl⟩ ?_
        refine ee_newR dAL_grow0_52 gw_994 (fun v52 w52 _ _ _ => ?_)
        refine ee_dup_x1 dAL_grow0_55 rfl rfl ?_
        refine ee_put dAL_grow0_56 lpAL_9 (ee_nRA _ _) (fun w56 _ => ?_)
        exact ee_aret rfl (Or.inr ⟨_, rfl⟩) dAL_grow0_59
def fAL_grow1 (l0 : Nat) (w : PW) : PX := (p_getI w l0 11 2).bind fun v2 => (p_obj w l0 11).bind fun _ => p_call (fAL_grow0 l0 (v2 + (1 : Int32)) w) <| p_kR fun v7 w7 => some (.inl (some (.ref v7)), w7)
set_option maxRecDepth 20000 in
set_option maxHeartbeats 2000000 in
theorem t_fAL_grow1 {Γ : PG} : ∀ (l0 : Nat) (w : PW), EE Γ MAL_grow1 0 (lv_args 0 [.ref l0]) [] w (fAL_grow1 l0 w) := by
  intro l0 w
  unfold fAL_grow1
  show EE Γ MAL_grow1 0 [(0, .ref l0)] [] w _
  refine ee_aload_n 0 dAL_grow1_0 rfl ?_
  refine ee_aload_n 0 dAL_grow1_1 rfl ?_
  refine ee_getI dAL_grow1_2 lfAL_48 (fun v2 _ => ?_)
  refine ee_iconst (v := (1 : Int32)) dAL_grow1_5 (by decide) ?_
  refine ee_iadd dAL_grow1_6 ?_
  refine ee_bind (fun _ ho7 => ?_)
  refine ee_callV (as := [.int (v2 + (1 : Int32))]) (st := []) dAL_grow1_7 (t_fAL_grow0 l0 (v2 + (1 : Int32)) w) my_fAL_grow0.1 (Nat.le_of_ble_eq_true rfl) my_fAL_grow0.2 rfl cf_11.1 rfl (p_obj_eq.mp ho7) gw_952 gw_954 gw_6 ⟨Nat.le_of_ble_eq_true rfl, Nat.le_of_ble_eq_true rfl⟩ (Nat.le_of_ble_eq_true rfl) (fun rv7 w7 _ => ?_)
  refine ee_kR (fun v7 => ?_)
  exact ee_aret rfl (Or.inr ⟨_, rfl⟩) dAL_grow1_10
def fAL_add0_11T (l0 : Nat) (l1 : Nat) (l3 : Int32) (w : PW) : PX := none
set_option maxRecDepth 20000 in
set_option maxHeartbeats 2000000 in
theorem t_fAL_add0_11T {Γ : PG} : ∀ (l0 : Nat) (l1 : Nat) (l3 : Int32) (w : PW), EE Γ MAL_add0 11 [(0, .ref l0), (1, .ref l1), (2, .retAddr 3), (3, .int l3)] [] w (fAL_add0_11T l0 l1 l3 w) := by
  intro l0 l1 l3 w
  unfold fAL_add0_11T
  refine ee_aload_nT 2 dAL_add0_11 rfl ?_
  refine ee_iload_n 3 dAL_add0_12 rfl ?_
  refine ee_aload_n 1 dAL_add0_13 rfl ?_
  exact ee_none
def fAL_add0_11 (l0 : Nat) (l1 : Nat) (l2 : Nat) (l3 : Int32) (w : PW) : PX := (p_astR w l2 l3 (some l1)).bind fun w14 => (p_put w14 l0 11 2 (.int (l3 + (1 : Int32)))).bind fun w19 => some (.inl none, w19)
set_option maxRecDepth 20000 in
set_option maxHeartbeats 2000000 in
theorem t_fAL_add0_11 {Γ : PG} : ∀ (l0 : Nat) (l1 : Nat) (l2 : Nat) (l3 : Int32) (w : PW), EE Γ MAL_add0 11 [(0, .ref l0), (1, .ref l1), (2, .ref l2), (3, .int l3)] [] w (fAL_add0_11 l0 l1 l2 l3 w) := by
  intro l0 l1 l2 l3 w
  unfold fAL_add0_11
  refine ee_aload_n 2 dAL_add0_11 rfl ?_
  refine ee_iload_n 3 dAL_add0_12 rfl ?_
  refine ee_aload_n 1 dAL_add0_13 rfl ?_
  refine ee_aast dAL_add0_14 (fun w14 _ => ?_)
  refine ee_aload_n 0 dAL_add0_15 rfl ?_
  refine ee_iload_n 3 dAL_add0_16 rfl ?_
  refine ee_iconst (v := (1 : Int32)) dAL_add0_17 (by decide) ?_
  refine ee_iadd dAL_add0_18 ?_
  refine ee_put dAL_add0_19 lpAL_48 (ee_nI _) (fun w19 _ => ?_)
  exact ee_vret rfl dAL_add0_22
def fAL_add0 (l0 : Nat) (l1 : Nat) (l2 : Value) (l3 : Int32) (w : PW) : PX := p_spl l2 (fun x2 => (p_len w x2).bind fun v2 => if ¬ l3 = v2 then (fAL_add0_11 l0 l1 x2 l3 w) else ((p_obj w l0 11).bind fun _ => p_call (fAL_grow1 l0 w) <| p_kR fun v7 w7 => fAL_add0_11 l0 l1 v7 l3 w7)) (if ¬ l3 = (0 : Int32) then (fAL_add0_11T l0 l1 l3 w) else ((p_obj w l0 11).bind fun _ => p_call (fAL_grow1 l0 w) <| p_kR fun v7 w7 => fAL_add0_11 l0 l1 v7 l3 w7))
set_option maxRecDepth 20000 in
set_option maxHeartbeats 2000000 in
theorem t_fAL_add0 {Γ : PG} : ∀ (l0 : Nat) (l1 : Nat) (l2 : Value) (l3 : Int32) (w : PW), EE Γ MAL_add0 0 (lv_args 0 [.ref l0, .ref l1, l2, .int l3]) [] w (fAL_add0 l0 l1 l2 l3 w) := by
  intro l0 l1 l2 l3 w
  unfold fAL_add0
  refine ee_splA (as := [.ref l0, .ref l1]) (bs := [.int l3]) (fun x2 => ?_) ?_
  · show EE Γ MAL_add0 0 [(0, .ref l0), (1, .ref l1), (2, .ref x2), (3, .int l3)] [] w _
    refine ee_iload_n 3 dAL_add0_0 rfl ?_
    refine ee_aload_n 2 dAL_add0_1 rfl ?_
    refine ee_alen dAL_add0_2 (fun v2 _ => ?_)
    refine ee_icmp_ne (tgt := 11) dAL_add0_3 (by decide) (fun h3 => ?_) (fun h3 => ?_)
    · exact t_fAL_add0_11 _ _ _ _ w
    · refine ee_aload_n 0 dAL_add0_6 rfl ?_
      refine ee_bind (fun _ ho7 => ?_)
      refine ee_callV (as := []) (st := []) dAL_add0_7 (t_fAL_grow1 l0 w) my_fAL_grow1.1 (Nat.le_of_ble_eq_true rfl) my_fAL_grow1.2 rfl cf_11.1 rfl (p_obj_eq.mp ho7) gw_948 gw_950 gw_5 ⟨Nat.le_of_ble_eq_true rfl, Nat.le_of_ble_eq_true rfl⟩ (Nat.le_of_ble_eq_true rfl) (fun rv7 w7 _ => ?_)
      refine ee_kR (fun v7 => ?_)
      refine ee_astore_n (lv2 := [(2, .ref v7), (0, .ref l0), (1, .ref l1), (3, .int l3)]) dAL_add0_10 (Nat.le_of_ble_eq_true rfl) rfl ?_
      refine ee_pick [1, 2, 0, 3] rfl ?_
      exact t_fAL_add0_11 _ _ _ _ w7
  · show EE Γ MAL_add0 0 [(0, .ref l0), (1, .ref l1), (2, .retAddr 3), (3, .int l3)] [] w _
    refine ee_iload_n 3 dAL_add0_0 rfl ?_
    refine ee_aload_nT 2 dAL_add0_1 rfl ?_
    refine ee_tlenE dAL_add0_2 ?_
    refine ee_icmp_ne (tgt := 11) dAL_add0_3 (by decide) (fun h3 => ?_) (fun h3 => ?_)
    · exact t_fAL_add0_11T _ _ _ w
    · refine ee_aload_n 0 dAL_add0_6 rfl ?_
      refine ee_bind (fun _ ho7 => ?_)
      refine ee_callV (as := []) (st := []) dAL_add0_7 (t_fAL_grow1 l0 w) my_fAL_grow1.1 (Nat.le_of_ble_eq_true rfl) my_fAL_grow1.2 rfl cf_11.1 rfl (p_obj_eq.mp ho7) gw_948 gw_950 gw_5 ⟨Nat.le_of_ble_eq_true rfl, Nat.le_of_ble_eq_true rfl⟩ (Nat.le_of_ble_eq_true rfl) (fun rv7 w7 _ => ?_)
      refine ee_kR (fun v7 => ?_)
      refine ee_astore_n (lv2 := [(2, .ref v7), (0, .ref l0), (1, .ref l1), (3, .int l3)]) dAL_add0_10 (Nat.le_of_ble_eq_true rfl) rfl ?_
      refine ee_pick [1, 2, 0, 3] rfl ?_
      exact t_fAL_add0_11 _ _ _ _ w7
def fAL_add1 (l0 : Nat) (l1 : Nat) (w : PW) : PX := (p_getI w l0 11 0).bind fun v2 => (p_put w l0 11 0 (.int (v2 + (1 : Int32)))).bind fun w7 => (p_getV w7 l0 11 1).bind fun v9 => p_spl v9 (fun v13 => (p_getI w7 l0 11 2).bind fun v17 => (p_obj w7 l0 11).bind fun _ => p_call (fAL_add0 l0 l1 (.ref v13) v17 w7) <| p_kV fun w20 => p_retZ (1 : Int32) w20) ((p_getI w7 l0 11 2).bind fun v17 => (p_obj w7 l0 11).bind fun _ => p_call (fAL_add0 l0 l1 (.retAddr 3) v17 w7) <| p_kV fun w20 => p_retZ (1 : Int32) w20)
set_option maxRecDepth 20000 in
set_option maxHeartbeats 2000000 in
theorem t_fAL_add1 {Γ : PG} : ∀ (l0 : Nat) (l1 : Nat) (w : PW), EE Γ MAL_add1 0 (lv_args 0 [.ref l0, .ref l1]) [] w (fAL_add1 l0 l1 w) := by
  intro l0 l1 w
  unfold fAL_add1
  show EE Γ MAL_add1 0 [(0, .ref l0), (1, .ref l1)] [] w _
  refine ee_aload_n 0 dAL_add1_0 rfl ?_
  refine ee_dup dAL_add1_1 rfl ?_
  refine ee_getI dAL_add1_2 lfAL_63 (fun v2 _ => ?_)
  refine ee_iconst (v := (1 : Int32)) dAL_add1_5 (by decide) ?_
  refine ee_iadd dAL_add1_6 ?_
  refine ee_put dAL_add1_7 lpAL_63 (ee_nI _) (fun w7 _ => ?_)
  refine ee_aload_n 0 dAL_add1_10 rfl ?_
  refine ee_aload_n 1 dAL_add1_11 rfl ?_
  refine ee_aload_n 0 dAL_add1_12 rfl ?_
  refine ee_getV dAL_add1_13 lfAL_9 (fun v13 => ?_) ?_
  · refine ee_aload_n 0 dAL_add1_16 rfl ?_
    refine ee_getI dAL_add1_17 lfAL_48 (fun v17 _ => ?_)
    refine ee_bind (fun _ ho20 => ?_)
    refine ee_callV (as := [.ref l1, .ref v13, .int v17]) (st := []) dAL_add1_20 (t_fAL_add0 l0 l1 (.ref v13) v17 w7) my_fAL_add0.1 (Nat.le_of_ble_eq_true rfl) my_fAL_add0.2 rfl cf_11.1 rfl (p_obj_eq.mp ho20) gw_944 gw_946 gw_4 ⟨Nat.le_of_ble_eq_true rfl, Nat.le_of_ble_eq_true rfl⟩ (Nat.le_of_ble_eq_true rfl) (fun rv20 w20 _ => ?_)
    refine ee_kV ?_
    refine ee_iconst (v := (1 : Int32)) dAL_add1_23 (by decide) ?_
    exact ee_zret rfl dAL_add1_24
  · refine ee_aload_n 0 dAL_add1_16 rfl ?_
    refine ee_getI dAL_add1_17 lfAL_48 (fun v17 _ => ?_)
    refine ee_bind (fun _ ho20 => ?_)
    refine ee_callV (as := [.ref l1, .retAddr 3, .int v17]) (st := []) dAL_add1_20 (t_fAL_add0 l0 l1 (.retAddr 3) v17 w7) my_fAL_add0.1 (Nat.le_of_ble_eq_true rfl) my_fAL_add0.2 rfl cf_11.1 rfl (p_obj_eq.mp ho20) gw_944 gw_946 gw_4 ⟨Nat.le_of_ble_eq_true rfl, Nat.le_of_ble_eq_true rfl⟩ (Nat.le_of_ble_eq_true rfl) (fun rv20 w20 _ => ?_)
    refine ee_kV ?_
    refine ee_iconst (v := (1 : Int32)) dAL_add1_23 (by decide) ?_
    exact ee_zret rfl dAL_add1_24
def fW_isByte (l0 : Int32) (w : PW) : PX := if l0 < 0 then (p_retZ (0 : Int32) w) else (if (255 : Int32) < l0 then (p_retZ (0 : Int32) w) else (p_retZ (1 : Int32) w))
set_option maxRecDepth 20000 in
set_option maxHeartbeats 2000000 in
theorem t_fW_isByte {Γ : PG} : ∀ (l0 : Int32) (w : PW), EE Γ MW_isByte 0 (lv_args 0 [.int l0]) [] w (fW_isByte l0 w) := by
  intro l0 w
  unfold fW_isByte
  show EE Γ MW_isByte 0 [(0, .int l0)] [] w _
  refine ee_iload_n 0 dW_isByte_0 rfl ?_
  refine ee_if_lt (tgt := 15) dW_isByte_1 (by decide) (fun h1 => ?_) (fun h1 => ?_)
  · refine ee_iconst (v := (0 : Int32)) dW_isByte_15 (by decide) ?_
    exact ee_zret rfl dW_isByte_16
  · refine ee_iload_n 0 dW_isByte_4 rfl ?_
    refine ee_sipush (v := (255 : Int32)) dW_isByte_5 (by decide) ?_
    refine ee_icmp_gt (tgt := 15) dW_isByte_8 (by decide) (fun h8 => ?_) (fun h8 => ?_)
    · refine ee_iconst (v := (0 : Int32)) dW_isByte_15 (by decide) ?_
      exact ee_zret rfl dW_isByte_16
    · refine ee_iconst (v := (1 : Int32)) dW_isByte_11 (by decide) ?_
      refine ee_goto (tgt := 16) dW_isByte_12 (by decide) ?_
      exact ee_zret rfl dW_isByte_16
def fW_isKind_2 : Nat → Int32 → Int32 → PW → PX
  | 0, _, _, _ => none
  | n9 + 1, l0, l1, w => if (32 : Int32) ≤ l1 then (p_retZ (1 : Int32) w) else (p_let (((p_ushr l0 l1) &&& (255 : Int32))) fun (l2_15 : Int32) => if l2_15 < (32 : Int32) then (p_retZ (0 : Int32) w) else (if l2_15 ≤ (126 : Int32) then (p_let (l1 + (8 : Int32)) fun (l1_30 : Int32) => (fW_isKind_2 n9) l0 l1_30 w) else (p_retZ (0 : Int32) w)))
set_option maxRecDepth 20000 in
set_option maxHeartbeats 2000000 in
theorem t_fW_isKind_2 {Γ : PG} : ∀ (n9 : Nat) (l0 : Int32) (l1 : Int32) (w : PW), EE Γ MW_isKind 2 [(0, .int l0), (1, .int l1)] [] w (fW_isKind_2 n9 l0 l1 w) := by
  intro n9
  induction n9 with
  | zero => intro l0 l1 w; exact ee_none
  | succ n9 ih =>
    intro l0 l1 w
    unfold fW_isKind_2
    refine ee_iload_n 1 dW_isKind_2 rfl ?_
    refine ee_bipush (v := (32 : Int32)) dW_isKind_3 (by decide) ?_
    refine ee_icmp_ge (tgt := 36) dW_isKind_5 (by decide) (fun h5 => ?_) (fun h5 => ?_)
    · refine ee_iconst (v := (1 : Int32)) dW_isKind_36 (by decide) ?_
      exact ee_zret rfl dW_isKind_37
    · refine ee_iload_n 0 dW_isKind_8 rfl ?_
      refine ee_iload_n 1 dW_isKind_9 rfl ?_
      refine ee_iushr dW_isKind_10 ?_
      refine ee_sipush (v := (255 : Int32)) dW_isKind_11 (by decide) ?_
      refine ee_iand dW_isKind_14 ?_
      refine ee_letI (fun l2_15 _ => ?_)
      refine ee_istore_n (lv2 := [(2, .int l2_15), (0, .int l0), (1, .int l1)]) dW_isKind_15 (Nat.le_of_ble_eq_true rfl) rfl ?_
      refine ee_iload_n 0 dW_isKind_16 rfl ?_
      refine ee_bipush (v := (32 : Int32)) dW_isKind_17 (by decide) ?_
      refine ee_icmp_lt (tgt := 28) dW_isKind_19 (by decide) (fun h19 => ?_) (fun h19 => ?_)
      · refine ee_iconst (v := (0 : Int32)) dW_isKind_28 (by decide) ?_
        exact ee_zret rfl dW_isKind_29
      · refine ee_iload_n 0 dW_isKind_22 rfl ?_
        refine ee_bipush (v := (126 : Int32)) dW_isKind_23 (by decide) ?_
        refine ee_icmp_le (tgt := 30) dW_isKind_25 (by decide) (fun h25 => ?_) (fun h25 => ?_)
        · refine ee_iinc 2 dW_isKind_30 rfl (e := (8 : Int32)) (by decide) (Nat.le_of_ble_eq_true rfl) (fun l1_30 _ => ?_)
          refine ee_lv (lv2 := [(1, .int l1_30), (2, .int l2_15), (0, .int l0)]) rfl ?_
          refine ee_goto (tgt := 2) dW_isKind_33 (by decide) ?_
          refine ee_pick [2, 0] rfl ?_
          exact ih _ _ w
        · refine ee_iconst (v := (0 : Int32)) dW_isKind_28 (by decide) ?_
          exact ee_zret rfl dW_isKind_29
def fW_isKind (l0 : Int32) (w : PW) : PX := fW_isKind_2 FUEL l0 (0 : Int32) w
set_option maxRecDepth 20000 in
set_option maxHeartbeats 2000000 in
theorem t_fW_isKind {Γ : PG} : ∀ (l0 : Int32) (w : PW), EE Γ MW_isKind 0 (lv_args 0 [.int l0]) [] w (fW_isKind l0 w) := by
  intro l0 w
  unfold fW_isKind
  show EE Γ MW_isKind 0 [(0, .int l0)] [] w _
  refine ee_iconst (v := (0 : Int32)) dW_isKind_0 (by decide) ?_
  refine ee_istore_n (lv2 := [(1, .int (0 : Int32)), (0, .int l0)]) dW_isKind_1 (Nat.le_of_ble_eq_true rfl) rfl ?_
  refine ee_pick [1, 0] rfl ?_
  exact t_fW_isKind_2 FUEL _ _ w
def fW_isOwnKind (l0 : Int32) (w : PW) : PX := if l0 = (1783636000 : Int32) then (p_retZ (1 : Int32) w) else (if l0 = (1718909296 : Int32) then (p_retZ (1 : Int32) w) else (if l0 = (1785737832 : Int32) then (p_retZ (1 : Int32) w) else (if l0 = (1768449138 : Int32) then (p_retZ (1 : Int32) w) else (if ¬ l0 = (1785737827 : Int32) then (p_retZ (0 : Int32) w) else (p_retZ (1 : Int32) w)))))
set_option maxRecDepth 20000 in
set_option maxHeartbeats 2000000 in
theorem t_fW_isOwnKind {Γ : PG} : ∀ (l0 : Int32) (w : PW), EE Γ MW_isOwnKind 0 (lv_args 0 [.int l0]) [] w (fW_isOwnKind l0 w) := by
  intro l0 w
  unfold fW_isOwnKind
  show EE Γ MW_isOwnKind 0 [(0, .int l0)] [] w _
  refine ee_iload_n 0 dW_isOwnKind_0 rfl ?_
  refine ee_ldcw (v := (1783636000 : Int32)) dW_isOwnKind_1 gw_1035 ?_
  refine ee_icmp_eq (tgt := 35) dW_isOwnKind_4 (by decide) (fun h4 => ?_) (fun h4 => ?_)
  · refine ee_iconst (v := (1 : Int32)) dW_isOwnKind_35 (by decide) ?_
    refine ee_goto (tgt := 40) dW_isOwnKind_36 (by decide) ?_
    exact ee_zret rfl dW_isOwnKind_40
  · refine ee_iload_n 0 dW_isOwnKind_7 rfl ?_
    refine ee_ldcw (v := (1718909296 : Int32)) dW_isOwnKind_8 gw_1036 ?_
    refine ee_icmp_eq (tgt := 35) dW_isOwnKind_11 (by decide) (fun h11 => ?_) (fun h11 => ?_)
    · refine ee_iconst (v := (1 : Int32)) dW_isOwnKind_35 (by decide) ?_
      refine ee_goto (tgt := 40) dW_isOwnKind_36 (by decide) ?_
      exact ee_zret rfl dW_isOwnKind_40
    · refine ee_iload_n 0 dW_isOwnKind_14 rfl ?_
      refine ee_ldcw (v := (1785737832 : Int32)) dW_isOwnKind_15 gw_1037 ?_
      refine ee_icmp_eq (tgt := 35) dW_isOwnKind_18 (by decide) (fun h18 => ?_) (fun h18 => ?_)
      · refine ee_iconst (v := (1 : Int32)) dW_isOwnKind_35 (by decide) ?_
        refine ee_goto (tgt := 40) dW_isOwnKind_36 (by decide) ?_
        exact ee_zret rfl dW_isOwnKind_40
      · refine ee_iload_n 0 dW_isOwnKind_21 rfl ?_
        refine ee_ldcw (v := (1768449138 : Int32)) dW_isOwnKind_22 gw_1038 ?_
        refine ee_icmp_eq (tgt := 35) dW_isOwnKind_25 (by decide) (fun h25 => ?_) (fun h25 => ?_)
        · refine ee_iconst (v := (1 : Int32)) dW_isOwnKind_35 (by decide) ?_
          refine ee_goto (tgt := 40) dW_isOwnKind_36 (by decide) ?_
          exact ee_zret rfl dW_isOwnKind_40
        · refine ee_iload_n 0 dW_isOwnKind_28 rfl ?_
          refine ee_ldcw (v := (1785737827 : Int32)) dW_isOwnKind_29 gw_1039 ?_
          refine ee_icmp_ne (tgt := 39) dW_isOwnKind_32 (by decide) (fun h32 => ?_) (fun h32 => ?_)
          · refine ee_iconst (v := (0 : Int32)) dW_isOwnKind_39 (by decide) ?_
            exact ee_zret rfl dW_isOwnKind_40
          · refine ee_iconst (v := (1 : Int32)) dW_isOwnKind_35 (by decide) ?_
            refine ee_goto (tgt := 40) dW_isOwnKind_36 (by decide) ?_
            exact ee_zret rfl dW_isOwnKind_40
def fW_write (l0 : Nat) (w : PW) : PX := (p_getR w l0 0 3).bind fun v1 => (p_obj w v1 9).bind fun _ => p_call (fWriter_begin v1 w) <| p_kV fun w4 => (p_getR w4 l0 0 3).bind fun v8 => (p_getR w4 l0 0 0).bind fun v12 => (p_getR w4 l0 0 2).bind fun v16 => (p_obj w4 v8 9).bind fun _ => p_call (fWriter_headBoxes v8 v12 v16 w4) <| p_kV fun w19 => (p_getR w19 l0 0 3).bind fun v23 => (p_getR w19 l0 0 2).bind fun v27 => (p_obj w19 v23 9).bind fun _ => p_call (fWriter_madeBoxes v23 v27 (0 : Int32) w19) <| p_kV fun w31 => (p_getR w31 l0 0 3).bind fun v35 => (p_getR w31 l0 0 0).bind fun v39 => (p_getR w31 l0 0 1).bind fun v43 => (p_obj w31 v35 9).bind fun _ => p_call (fWriter_streamBox v35 v39 v43 w31) <| p_kV fun w46 => (p_getR w46 l0 0 3).bind fun v50 => (p_getR w46 v50 9 0).bind fun v53 => (p_getI w46 v53 2 2).bind fun v56 => some (.inl (some (.int v56)), w46)
set_option maxRecDepth 20000 in
set_option maxHeartbeats 2000000 in
theorem t_fW_write {Γ : PG} : ∀ (l0 : Nat) (w : PW), EE Γ MW_write 0 (lv_args 0 [.ref l0]) [] w (fW_write l0 w) := by
  intro l0 w
  unfold fW_write
  show EE Γ MW_write 0 [(0, .ref l0)] [] w _
  refine ee_aload_n 0 dW_write_0 rfl ?_
  refine ee_getR dW_write_1 lfW_29 (fun v1 _ => ?_)
  refine ee_bind (fun _ ho4 => ?_)
  refine ee_callV (as := []) (st := []) dW_write_4 (t_fWriter_begin v1 w) my_fWriter_begin.1 (Nat.le_of_ble_eq_true rfl) my_fWriter_begin.2 rfl cf_9.1 rfl (p_obj_eq.mp ho4) gw_360 gw_361 gw_362 ⟨Nat.le_of_ble_eq_true rfl, Nat.le_of_ble_eq_true rfl⟩ (Nat.le_of_ble_eq_true rfl) (fun rv4 w4 _ => ?_)
  refine ee_kV ?_
  refine ee_aload_n 0 dW_write_7 rfl ?_
  refine ee_getR dW_write_8 lfW_29 (fun v8 _ => ?_)
  refine ee_aload_n 0 dW_write_11 rfl ?_
  refine ee_getR dW_write_12 lfW_10 (fun v12 _ => ?_)
  refine ee_aload_n 0 dW_write_15 rfl ?_
  refine ee_getR dW_write_16 lfW_23 (fun v16 _ => ?_)
  refine ee_bind (fun _ ho19 => ?_)
  refine ee_callV (as := [.ref v12, .ref v16]) (st := []) dW_write_19 (t_fWriter_headBoxes v8 v12 v16 w4) my_fWriter_headBoxes.1 (Nat.le_of_ble_eq_true rfl) my_fWriter_headBoxes.2 rfl cf_9.1 rfl (p_obj_eq.mp ho19) gw_364 gw_365 gw_366 ⟨Nat.le_of_ble_eq_true rfl, Nat.le_of_ble_eq_true rfl⟩ (Nat.le_of_ble_eq_true rfl) (fun rv19 w19 _ => ?_)
  refine ee_kV ?_
  refine ee_aload_n 0 dW_write_22 rfl ?_
  refine ee_getR dW_write_23 lfW_29 (fun v23 _ => ?_)
  refine ee_aload_n 0 dW_write_26 rfl ?_
  refine ee_getR dW_write_27 lfW_23 (fun v27 _ => ?_)
  refine ee_iconst (v := (0 : Int32)) dW_write_30 (by decide) ?_
  refine ee_bind (fun _ ho31 => ?_)
  refine ee_callV (as := [.ref v27, .int (0 : Int32)]) (st := []) dW_write_31 (t_fWriter_madeBoxes v23 v27 (0 : Int32) w19) my_fWriter_madeBoxes.1 (Nat.le_of_ble_eq_true rfl) my_fWriter_madeBoxes.2 rfl cf_9.1 rfl (p_obj_eq.mp ho31) gw_462 gw_432 gw_433 ⟨Nat.le_of_ble_eq_true rfl, Nat.le_of_ble_eq_true rfl⟩ (Nat.le_of_ble_eq_true rfl) (fun rv31 w31 _ => ?_)
  refine ee_kV ?_
  refine ee_aload_n 0 dW_write_34 rfl ?_
  refine ee_getR dW_write_35 lfW_29 (fun v35 _ => ?_)
  refine ee_aload_n 0 dW_write_38 rfl ?_
  refine ee_getR dW_write_39 lfW_10 (fun v39 _ => ?_)
  refine ee_aload_n 0 dW_write_42 rfl ?_
  refine ee_getR dW_write_43 lfW_19 (fun v43 _ => ?_)
  refine ee_bind (fun _ ho46 => ?_)
  refine ee_callV (as := [.ref v39, .ref v43]) (st := []) dW_write_46 (t_fWriter_streamBox v35 v39 v43 w31) my_fWriter_streamBox.1 (Nat.le_of_ble_eq_true rfl) my_fWriter_streamBox.2 rfl cf_9.1 rfl (p_obj_eq.mp ho46) gw_463 gw_464 gw_465 ⟨Nat.le_of_ble_eq_true rfl, Nat.le_of_ble_eq_true rfl⟩ (Nat.le_of_ble_eq_true rfl) (fun rv46 w46 _ => ?_)
  refine ee_kV ?_
  refine ee_aload_n 0 dW_write_49 rfl ?_
  refine ee_getR dW_write_50 lfW_29 (fun v50 _ => ?_)
  refine ee_getR dW_write_53 lfW_218 (fun v53 _ => ?_)
  refine ee_getI dW_write_56 lfW_180 (fun v56 _ => ?_)
  exact ee_iret rfl dW_write_59
def fW_forgetReading (l0 : Nat) (w : PW) : PX := if ¬ ((0 : Int32) = 0 ∨ (0 : Int32) = 1) then none else (p_put w l0 0 10 (.int (0 : Int32))).bind fun w2 => (p_getR w2 l0 0 7).bind fun v6 => (p_obj w2 v6 1).bind fun _ => p_call (fBoxReader_forget v6 w2) <| p_kV fun w9 => (p_getR w9 l0 0 6).bind fun v13 => (p_obj w9 v13 7).bind fun _ => p_call (fSettings_forgetSegments v13 w9) <| p_kV fun w16 => (p_getR w16 l0 0 9).bind fun v20 => (p_obj w16 v20 6).bind fun _ => p_call (fPartReader_forget v20 w16) <| p_kV fun w23 => some (.inl none, w23)
set_option maxRecDepth 20000 in
set_option maxHeartbeats 2000000 in
theorem t_fW_forgetReading {Γ : PG} : ∀ (l0 : Nat) (w : PW), EE Γ MW_forgetReading 0 (lv_args 0 [.ref l0]) [] w (fW_forgetReading l0 w) := by
  intro l0 w
  unfold fW_forgetReading
  show EE Γ MW_forgetReading 0 [(0, .ref l0)] [] w _
  refine ee_aload_n 0 dW_forgetReading_0 rfl ?_
  refine ee_iconst (v := (0 : Int32)) dW_forgetReading_1 (by decide) ?_
  refine ee_ite (fun _ => ee_none) (fun hz2 => ?_)
  refine ee_put dW_forgetReading_2 lpW_75 (ee_nZ _ (Classical.byContradiction hz2)) (fun w2 _ => ?_)
  refine ee_aload_n 0 dW_forgetReading_5 rfl ?_
  refine ee_getR dW_forgetReading_6 lfW_53 (fun v6 _ => ?_)
  refine ee_bind (fun _ ho9 => ?_)
  refine ee_callV (as := []) (st := []) dW_forgetReading_9 (t_fBoxReader_forget v6 w2) my_fBoxReader_forget.1 (Nat.le_of_ble_eq_true rfl) my_fBoxReader_forget.2 rfl cf_1.1 rfl (p_obj_eq.mp ho9) gw_514 gw_515 gw_516 ⟨Nat.le_of_ble_eq_true rfl, Nat.le_of_ble_eq_true rfl⟩ (Nat.le_of_ble_eq_true rfl) (fun rv9 w9 _ => ?_)
  refine ee_kV ?_
  refine ee_aload_n 0 dW_forgetReading_12 rfl ?_
  refine ee_getR dW_forgetReading_13 lfW_45 (fun v13 _ => ?_)
  refine ee_bind (fun _ ho16 => ?_)
  refine ee_callV (as := []) (st := []) dW_forgetReading_16 (t_fSettings_forgetSegments v13 w9) my_fSettings_forgetSegments.1 (Nat.le_of_ble_eq_true rfl) my_fSettings_forgetSegments.2 rfl cf_7.1 rfl (p_obj_eq.mp ho16) gw_518 gw_312 gw_313 ⟨Nat.le_of_ble_eq_true rfl, Nat.le_of_ble_eq_true rfl⟩ (Nat.le_of_ble_eq_true rfl) (fun rv16 w16 _ => ?_)
  refine ee_kV ?_
  refine ee_aload_n 0 dW_forgetReading_19 rfl ?_
  refine ee_getR dW_forgetReading_20 lfW_71 (fun v20 _ => ?_)
  refine ee_bind (fun _ ho23 => ?_)
  refine ee_callV (as := []) (st := []) dW_forgetReading_23 (t_fPartReader_forget v20 w16) my_fPartReader_forget.1 (Nat.le_of_ble_eq_true rfl) my_fPartReader_forget.2 rfl cf_6.1 rfl (p_obj_eq.mp ho23) gw_519 gw_520 gw_521 ⟨Nat.le_of_ble_eq_true rfl, Nat.le_of_ble_eq_true rfl⟩ (Nat.le_of_ble_eq_true rfl) (fun rv23 w23 _ => ?_)
  refine ee_kV ?_
  exact ee_vret rfl dW_forgetReading_26
def fW_read_50 (l0 : Nat) (l1 : Int32) (w : PW) : PX := if l1 = (-1 : Int32) then ((p_getR w l0 0 9).bind fun v60 => (p_getR w l0 0 8).bind fun v64 => (p_getI w v64 3 2).bind fun v67 => (p_getR w l0 0 7).bind fun v71 => (p_getI w v71 1 5).bind fun v74 => (p_obj w v60 6).bind fun _ => p_call (fPartReader_readParts v60 v67 v74 w) <| p_kV fun w77 => if ¬ ((1 : Int32) = 0 ∨ (1 : Int32) = 1) then none else (p_put w77 l0 0 10 (.int (1 : Int32))).bind fun w82 => (p_getR w82 l0 0 9).bind fun v86 => (p_getI w82 v86 6 12).bind fun v89 => some (.inl (some (.int v89)), w82)) else (some (.inl (some (.int ((-1 : Int32) - l1))), w))
set_option maxRecDepth 20000 in
set_option maxHeartbeats 2000000 in
theorem t_fW_read_50 {Γ : PG} : ∀ (l0 : Nat) (l1 : Int32) (w : PW), EE Γ MW_read 50 [(0, .ref l0), (1, .int l1)] [] w (fW_read_50 l0 l1 w) := by
  intro l0 l1 w
  unfold fW_read_50
  refine ee_iload_n 1 dW_read_50 rfl ?_
  refine ee_iconst (v := (-1 : Int32)) dW_read_51 (by decide) ?_
  refine ee_icmp_eq (tgt := 59) dW_read_52 (by decide) (fun h52 => ?_) (fun h52 => ?_)
  · refine ee_aload_n 0 dW_read_59 rfl ?_
    refine ee_getR dW_read_60 lfW_71 (fun v60 _ => ?_)
    refine ee_aload_n 0 dW_read_63 rfl ?_
    refine ee_getR dW_read_64 lfW_62 (fun v64 _ => ?_)
    refine ee_getI dW_read_67 lfW_256 (fun v67 _ => ?_)
    refine ee_aload_n 0 dW_read_70 rfl ?_
    refine ee_getR dW_read_71 lfW_53 (fun v71 _ => ?_)
    refine ee_getI dW_read_74 lfW_250 (fun v74 _ => ?_)
    refine ee_bind (fun _ ho77 => ?_)
    refine ee_callV (as := [.int v67, .int v74]) (st := []) dW_read_77 (t_fPartReader_readParts v60 v67 v74 w) my_fPartReader_readParts.1 (Nat.le_of_ble_eq_true rfl) my_fPartReader_readParts.2 rfl cf_6.1 rfl (p_obj_eq.mp ho77) gw_664 gw_665 gw_666 ⟨Nat.le_of_ble_eq_true rfl, Nat.le_of_ble_eq_true rfl⟩ (Nat.le_of_ble_eq_true rfl) (fun rv77 w77 _ => ?_)
    refine ee_kV ?_
    refine ee_aload_n 0 dW_read_80 rfl ?_
    refine ee_iconst (v := (1 : Int32)) dW_read_81 (by decide) ?_
    refine ee_ite (fun _ => ee_none) (fun hz82 => ?_)
    refine ee_put dW_read_82 lpW_75 (ee_nZ _ (Classical.byContradiction hz82)) (fun w82 _ => ?_)
    refine ee_aload_n 0 dW_read_85 rfl ?_
    refine ee_getR dW_read_86 lfW_71 (fun v86 _ => ?_)
    refine ee_getI dW_read_89 lfW_262 (fun v89 _ => ?_)
    exact ee_iret rfl dW_read_92
  · refine ee_iconst (v := (-1 : Int32)) dW_read_55 (by decide) ?_
    refine ee_iload_n 1 dW_read_56 rfl ?_
    refine ee_isub dW_read_57 ?_
    exact ee_iret rfl dW_read_58
def fW_read (l0 : Nat) (w : PW) : PX := (p_obj w l0 0).bind fun _ => p_call (fW_forgetReading l0 w) <| p_kV fun w1 => (p_getR w1 l0 0 5).bind fun v5 => (p_getR w1 l0 0 4).bind fun v9 => (p_obj w1 v5 2).bind fun _ => p_call (fBytes_copy v5 v9 w1) <| p_kV fun w12 => (p_getR w12 l0 0 7).bind fun v16 => (p_obj w12 v16 1).bind fun _ => p_call (fBoxReader_findStream v16 w12) <| p_kI fun v19 w19 => if ¬ v19 = (-1 : Int32) then (fW_read_50 l0 v19 w19) else ((p_getR w19 l0 0 8).bind fun v29 => (p_getR w19 l0 0 7).bind fun v33 => (p_getI w19 v33 1 4).bind fun v36 => (p_getR w19 l0 0 7).bind fun v40 => (p_getI w19 v40 1 5).bind fun v43 => (p_obj w19 v29 3).bind fun _ => p_call (fHeadReader_readHead v29 v36 v43 w19) <| p_kI fun v46 w46 => fW_read_50 l0 v46 w46)
set_option maxRecDepth 20000 in
set_option maxHeartbeats 2000000 in
theorem t_fW_read {Γ : PG} : ∀ (l0 : Nat) (w : PW), EE Γ MW_read 0 (lv_args 0 [.ref l0]) [] w (fW_read l0 w) := by
  intro l0 w
  unfold fW_read
  show EE Γ MW_read 0 [(0, .ref l0)] [] w _
  refine ee_aload_n 0 dW_read_0 rfl ?_
  refine ee_bind (fun _ ho1 => ?_)
  refine ee_callV (as := []) (st := []) dW_read_1 (t_fW_forgetReading l0 w) my_fW_forgetReading.1 (Nat.le_of_ble_eq_true rfl) my_fW_forgetReading.2 rfl cf_0.1 rfl (p_obj_eq.mp ho1) gw_510 gw_512 gw_0 ⟨Nat.le_of_ble_eq_true rfl, Nat.le_of_ble_eq_true rfl⟩ (Nat.le_of_ble_eq_true rfl) (fun rv1 w1 _ => ?_)
  refine ee_kV ?_
  refine ee_aload_n 0 dW_read_4 rfl ?_
  refine ee_getR dW_read_5 lfW_42 (fun v5 _ => ?_)
  refine ee_aload_n 0 dW_read_8 rfl ?_
  refine ee_getR dW_read_9 lfW_38 (fun v9 _ => ?_)
  refine ee_bind (fun _ ho12 => ?_)
  refine ee_callV (as := [.ref v9]) (st := []) dW_read_12 (t_fBytes_copy v5 v9 w1) my_fBytes_copy.1 (Nat.le_of_ble_eq_true rfl) my_fBytes_copy.2 rfl cf_2.1 rfl (p_obj_eq.mp ho12) gw_523 gw_524 gw_525 ⟨Nat.le_of_ble_eq_true rfl, Nat.le_of_ble_eq_true rfl⟩ (Nat.le_of_ble_eq_true rfl) (fun rv12 w12 _ => ?_)
  refine ee_kV ?_
  refine ee_aload_n 0 dW_read_15 rfl ?_
  refine ee_getR dW_read_16 lfW_53 (fun v16 _ => ?_)
  refine ee_bind (fun _ ho19 => ?_)
  refine ee_callV (as := []) (st := []) dW_read_19 (t_fBoxReader_findStream v16 w12) my_fBoxReader_findStream.1 (Nat.le_of_ble_eq_true rfl) my_fBoxReader_findStream.2 rfl cf_1.1 rfl (p_obj_eq.mp ho19) gw_528 gw_529 gw_530 ⟨Nat.le_of_ble_eq_true rfl, Nat.le_of_ble_eq_true rfl⟩ (Nat.le_of_ble_eq_true rfl) (fun rv19 w19 _ => ?_)
  refine ee_kI (fun v19 => ?_)
  refine ee_istore_n (lv2 := [(1, .int v19), (0, .ref l0)]) dW_read_22 (Nat.le_of_ble_eq_true rfl) rfl ?_
  refine ee_iload_n 0 dW_read_23 rfl ?_
  refine ee_iconst (v := (-1 : Int32)) dW_read_24 (by decide) ?_
  refine ee_icmp_ne (tgt := 50) dW_read_25 (by decide) (fun h25 => ?_) (fun h25 => ?_)
  · refine ee_pick [1, 0] rfl ?_
    exact t_fW_read_50 _ _ w19
  · refine ee_aload_n 1 dW_read_28 rfl ?_
    refine ee_getR dW_read_29 lfW_62 (fun v29 _ => ?_)
    refine ee_aload_n 1 dW_read_32 rfl ?_
    refine ee_getR dW_read_33 lfW_53 (fun v33 _ => ?_)
    refine ee_getI dW_read_36 lfW_247 (fun v36 _ => ?_)
    refine ee_aload_n 1 dW_read_39 rfl ?_
    refine ee_getR dW_read_40 lfW_53 (fun v40 _ => ?_)
    refine ee_getI dW_read_43 lfW_250 (fun v43 _ => ?_)
    refine ee_bind (fun _ ho46 => ?_)
    refine ee_callV (as := [.int v36, .int v43]) (st := []) dW_read_46 (t_fHeadReader_readHead v29 v36 v43 w19) my_fHeadReader_readHead.1 (Nat.le_of_ble_eq_true rfl) my_fHeadReader_readHead.2 rfl cf_3.1 rfl (p_obj_eq.mp ho46) gw_585 gw_586 gw_587 ⟨Nat.le_of_ble_eq_true rfl, Nat.le_of_ble_eq_true rfl⟩ (Nat.le_of_ble_eq_true rfl) (fun rv46 w46 _ => ?_)
    refine ee_kI (fun v46 => ?_)
    refine ee_istore_n (lv2 := [(1, .int v46), (0, .ref l0)]) dW_read_49 (Nat.le_of_ble_eq_true rfl) rfl ?_
    refine ee_pick [1, 0] rfl ?_
    exact t_fW_read_50 _ _ w46
def fW_canBeAsked_74 (l4 : Int32) (s0 : Int32) (w : PW) : PX := if l4 = 0 then (p_retZ (0 : Int32) w) else (if s0 = 0 then (p_retZ (0 : Int32) w) else (p_retZ (1 : Int32) w))
set_option maxRecDepth 20000 in
set_option maxHeartbeats 2000000 in
theorem t_fW_canBeAsked_74 {Γ : PG} : ∀ (l4 : Int32) (s0 : Int32) (w : PW), EE Γ MW_canBeAsked 74 [(4, .int l4)] [.int s0] w (fW_canBeAsked_74 l4 s0 w) := by
  intro l4 s0 w
  unfold fW_canBeAsked_74
  refine ee_istore (lv2 := [(5, .int s0), (4, .int l4)]) dW_canBeAsked_74 (Nat.le_of_ble_eq_true rfl) rfl ?_
  refine ee_iload 1 dW_canBeAsked_76 rfl ?_
  refine ee_if_eq (tgt := 90) dW_canBeAsked_78 (by decide) (fun h78 => ?_) (fun h78 => ?_)
  · refine ee_iconst (v := (0 : Int32)) dW_canBeAsked_90 (by decide) ?_
    exact ee_zret rfl dW_canBeAsked_91
  · refine ee_iload 0 dW_canBeAsked_81 rfl ?_
    refine ee_if_eq (tgt := 90) dW_canBeAsked_83 (by decide) (fun h83 => ?_) (fun h83 => ?_)
    · refine ee_iconst (v := (0 : Int32)) dW_canBeAsked_90 (by decide) ?_
      exact ee_zret rfl dW_canBeAsked_91
    · refine ee_iconst (v := (1 : Int32)) dW_canBeAsked_86 (by decide) ?_
      refine ee_goto (tgt := 91) dW_canBeAsked_87 (by decide) ?_
      exact ee_zret rfl dW_canBeAsked_91
def fW_canBeAsked_46 (l0 : Nat) (l1 : Int32) (l3 : Int32) (s0 : Int32) (w : PW) : PX := if l1 = (4 : Int32) then (fW_canBeAsked_74 s0 (1 : Int32) w) else (if l1 = (5 : Int32) then (fW_canBeAsked_74 s0 (1 : Int32) w) else ((p_getR w l0 0 6).bind fun v59 => (p_obj w v59 7).bind fun _ => p_call (fSettings_isComponent v59 l3 w) <| p_kI fun v63 w63 => if v63 = 0 then (fW_canBeAsked_74 s0 (0 : Int32) w63) else (fW_canBeAsked_74 s0 (1 : Int32) w63)))
set_option maxRecDepth 20000 in
set_option maxHeartbeats 2000000 in
theorem t_fW_canBeAsked_46 {Γ : PG} : ∀ (l0 : Nat) (l1 : Int32) (l3 : Int32) (s0 : Int32) (w : PW), EE Γ MW_canBeAsked 46 [(0, .ref l0), (1, .int l1), (3, .int l3)] [.int s0] w (fW_canBeAsked_46 l0 l1 l3 s0 w) := by
  intro l0 l1 l3 s0 w
  unfold fW_canBeAsked_46
  refine ee_istore (lv2 := [(4, .int s0), (0, .ref l0), (1, .int l1), (3, .int l3)]) dW_canBeAsked_46 (Nat.le_of_ble_eq_true rfl) rfl ?_
  refine ee_iload_n 2 dW_canBeAsked_48 rfl ?_
  refine ee_iconst (v := (4 : Int32)) dW_canBeAsked_49 (by decide) ?_
  refine ee_icmp_eq (tgt := 69) dW_canBeAsked_50 (by decide) (fun h50 => ?_) (fun h50 => ?_)
  · refine ee_iconst (v := (1 : Int32)) dW_canBeAsked_69 (by decide) ?_
    refine ee_goto (tgt := 74) dW_canBeAsked_70 (by decide) ?_
    refine ee_pick [0] rfl ?_
    exact t_fW_canBeAsked_74 _ _ w
  · refine ee_iload_n 2 dW_canBeAsked_53 rfl ?_
    refine ee_iconst (v := (5 : Int32)) dW_canBeAsked_54 (by decide) ?_
    refine ee_icmp_eq (tgt := 69) dW_canBeAsked_55 (by decide) (fun h55 => ?_) (fun h55 => ?_)
    · refine ee_iconst (v := (1 : Int32)) dW_canBeAsked_69 (by decide) ?_
      refine ee_goto (tgt := 74) dW_canBeAsked_70 (by decide) ?_
      refine ee_pick [0] rfl ?_
      exact t_fW_canBeAsked_74 _ _ w
    · refine ee_aload_n 1 dW_canBeAsked_58 rfl ?_
      refine ee_getR dW_canBeAsked_59 lfW_45 (fun v59 _ => ?_)
      refine ee_iload_n 3 dW_canBeAsked_62 rfl ?_
      refine ee_bind (fun _ ho63 => ?_)
      refine ee_callV (as := [.int l3]) (st := []) dW_canBeAsked_63 (t_fSettings_isComponent v59 l3 w) my_fSettings_isComponent.1 (Nat.le_of_ble_eq_true rfl) my_fSettings_isComponent.2 rfl cf_7.1 rfl (p_obj_eq.mp ho63) gw_754 gw_657 gw_658 ⟨Nat.le_of_ble_eq_true rfl, Nat.le_of_ble_eq_true rfl⟩ (Nat.le_of_ble_eq_true rfl) (fun rv63 w63 _ => ?_)
      refine ee_kI (fun v63 => ?_)
      refine ee_if_eq (tgt := 73) dW_canBeAsked_66 (by decide) (fun h66 => ?_) (fun h66 => ?_)
      · refine ee_iconst (v := (0 : Int32)) dW_canBeAsked_73 (by decide) ?_
        refine ee_pick [0] rfl ?_
        exact t_fW_canBeAsked_74 _ _ w63
      · refine ee_iconst (v := (1 : Int32)) dW_canBeAsked_69 (by decide) ?_
        refine ee_goto (tgt := 74) dW_canBeAsked_70 (by decide) ?_
        refine ee_pick [0] rfl ?_
        exact t_fW_canBeAsked_74 _ _ w63
def fW_canBeAsked (l0 : Nat) (l1 : Int32) (l2 : Int32) (l3 : Int32) (w : PW) : PX := if l1 < 0 then (p_retZ (0 : Int32) w) else (if l1 ≤ (11 : Int32) then (if l1 ≤ (2 : Int32) then (p_retZ (1 : Int32) w) else (if ¬ l1 = (11 : Int32) then (if l1 = (3 : Int32) then (fW_canBeAsked_46 l0 l1 l3 (1 : Int32) w) else ((p_getR w l0 0 6).bind fun v31 => (p_obj w v31 7).bind fun _ => p_call (fSettings_isTile v31 l2 w) <| p_kI fun v35 w35 => if v35 = 0 then (fW_canBeAsked_46 l0 l1 l3 (0 : Int32) w35) else (fW_canBeAsked_46 l0 l1 l3 (1 : Int32) w35))) else (p_retZ (1 : Int32) w))) else (p_retZ (0 : Int32) w))
set_option maxRecDepth 20000 in
set_option maxHeartbeats 2000000 in
theorem t_fW_canBeAsked {Γ : PG} : ∀ (l0 : Nat) (l1 : Int32) (l2 : Int32) (l3 : Int32) (w : PW), EE Γ MW_canBeAsked 0 (lv_args 0 [.ref l0, .int l1, .int l2, .int l3]) [] w (fW_canBeAsked l0 l1 l2 l3 w) := by
  intro l0 l1 l2 l3 w
  unfold fW_canBeAsked
  show EE Γ MW_canBeAsked 0 [(0, .ref l0), (1, .int l1), (2, .int l2), (3, .int l3)] [] w _
  refine ee_iload_n 1 dW_canBeAsked_0 rfl ?_
  refine ee_if_lt (tgt := 10) dW_canBeAsked_1 (by decide) (fun h1 => ?_) (fun h1 => ?_)
  · refine ee_iconst (v := (0 : Int32)) dW_canBeAsked_10 (by decide) ?_
    exact ee_zret rfl dW_canBeAsked_11
  · refine ee_iload_n 1 dW_canBeAsked_4 rfl ?_
    refine ee_bipush (v := (11 : Int32)) dW_canBeAsked_5 (by decide) ?_
    refine ee_icmp_le (tgt := 12) dW_canBeAsked_7 (by decide) (fun h7 => ?_) (fun h7 => ?_)
    · refine ee_iload_n 1 dW_canBeAsked_12 rfl ?_
      refine ee_iconst (v := (2 : Int32)) dW_canBeAsked_13 (by decide) ?_
      refine ee_icmp_le (tgt := 23) dW_canBeAsked_14 (by decide) (fun h14 => ?_) (fun h14 => ?_)
      · refine ee_iconst (v := (1 : Int32)) dW_canBeAsked_23 (by decide) ?_
        exact ee_zret rfl dW_canBeAsked_24
      · refine ee_iload_n 1 dW_canBeAsked_17 rfl ?_
        refine ee_bipush (v := (11 : Int32)) dW_canBeAsked_18 (by decide) ?_
        refine ee_icmp_ne (tgt := 25) dW_canBeAsked_20 (by decide) (fun h20 => ?_) (fun h20 => ?_)
        · refine ee_iload_n 1 dW_canBeAsked_25 rfl ?_
          refine ee_iconst (v := (3 : Int32)) dW_canBeAsked_26 (by decide) ?_
          refine ee_icmp_eq (tgt := 41) dW_canBeAsked_27 (by decide) (fun h27 => ?_) (fun h27 => ?_)
          · refine ee_iconst (v := (1 : Int32)) dW_canBeAsked_41 (by decide) ?_
            refine ee_goto (tgt := 46) dW_canBeAsked_42 (by decide) ?_
            refine ee_pick [0, 1, 3] rfl ?_
            exact t_fW_canBeAsked_46 _ _ _ _ w
          · refine ee_aload_n 0 dW_canBeAsked_30 rfl ?_
            refine ee_getR dW_canBeAsked_31 lfW_45 (fun v31 _ => ?_)
            refine ee_iload_n 2 dW_canBeAsked_34 rfl ?_
            refine ee_bind (fun _ ho35 => ?_)
            refine ee_callV (as := [.int l2]) (st := []) dW_canBeAsked_35 (t_fSettings_isTile v31 l2 w) my_fSettings_isTile.1 (Nat.le_of_ble_eq_true rfl) my_fSettings_isTile.2 rfl cf_7.1 rfl (p_obj_eq.mp ho35) gw_753 gw_681 gw_682 ⟨Nat.le_of_ble_eq_true rfl, Nat.le_of_ble_eq_true rfl⟩ (Nat.le_of_ble_eq_true rfl) (fun rv35 w35 _ => ?_)
            refine ee_kI (fun v35 => ?_)
            refine ee_if_eq (tgt := 45) dW_canBeAsked_38 (by decide) (fun h38 => ?_) (fun h38 => ?_)
            · refine ee_iconst (v := (0 : Int32)) dW_canBeAsked_45 (by decide) ?_
              refine ee_pick [0, 1, 3] rfl ?_
              exact t_fW_canBeAsked_46 _ _ _ _ w35
            · refine ee_iconst (v := (1 : Int32)) dW_canBeAsked_41 (by decide) ?_
              refine ee_goto (tgt := 46) dW_canBeAsked_42 (by decide) ?_
              refine ee_pick [0, 1, 3] rfl ?_
              exact t_fW_canBeAsked_46 _ _ _ _ w35
        · refine ee_iconst (v := (1 : Int32)) dW_canBeAsked_23 (by decide) ?_
          exact ee_zret rfl dW_canBeAsked_24
    · refine ee_iconst (v := (0 : Int32)) dW_canBeAsked_10 (by decide) ?_
      exact ee_zret rfl dW_canBeAsked_11
def fW_told (l0 : Nat) (l1 : Int32) (w : PW) : PX := if l1 = (0 : Int32) then ((p_getR w l0 0 0).bind fun v53 => (p_obj w v53 7).bind fun _ => p_call (fSettings_tiles v53 w) <| p_kI fun v56 w56 => some (.inl (some (.int v56)), w56)) else if l1 = (1 : Int32) then ((p_getR w l0 0 1).bind fun v61 => (p_obj w v61 11).bind fun _ => p_call (fAL_size v61 w) <| p_kI fun v64 w64 => some (.inl (some (.int v64)), w64)) else if l1 = (2 : Int32) then ((p_getR w l0 0 2).bind fun v69 => (p_obj w v69 11).bind fun _ => p_call (fAL_size v69 w) <| p_kI fun v72 w72 => some (.inl (some (.int v72)), w72)) else if l1 = (3 : Int32) then ((p_getR w l0 0 3).bind fun v77 => (p_getR w v77 9 0).bind fun v80 => (p_getI w v80 2 2).bind fun v83 => some (.inl (some (.int v83)), w)) else if l1 = (4 : Int32) then ((p_getR w l0 0 4).bind fun v88 => (p_getI w v88 2 2).bind fun v91 => some (.inl (some (.int v91)), w)) else if l1 = (5 : Int32) then ((p_getR w l0 0 9).bind fun v96 => (p_getI w v96 6 12).bind fun v99 => some (.inl (some (.int v99)), w)) else if l1 = (6 : Int32) then ((p_getR w l0 0 7).bind fun v104 => (p_getR w v104 1 1).bind fun v107 => (p_getI w v107 5 1).bind fun v110 => some (.inl (some (.int v110)), w)) else if l1 = (7 : Int32) then ((p_getR w l0 0 9).bind fun v115 => (p_obj w v115 6).bind fun _ => p_call (fPartReader_spoiltOnes v115 w) <| p_kI fun v118 w118 => some (.inl (some (.int v118)), w118)) else if l1 = (8 : Int32) then ((p_getR w l0 0 9).bind fun v123 => (p_obj w v123 6).bind fun _ => p_call (fPartReader_wholePackets v123 w) <| p_kI fun v126 w126 => some (.inl (some (.int v126)), w126)) else (some (.inl (some (.int (-1 : Int32))), w))
set_option maxRecDepth 20000 in
set_option maxHeartbeats 2000000 in
theorem t_fW_told {Γ : PG} : ∀ (l0 : Nat) (l1 : Int32) (w : PW), EE Γ MW_told 0 (lv_args 0 [.ref l0, .int l1]) [] w (fW_told l0 l1 w) := by
  intro l0 l1 w
  unfold fW_told
  show EE Γ MW_told 0 [(0, .ref l0), (1, .int l1)] [] w _
  refine ee_iload_n 1 dW_told_0 rfl ?_
  refine ee_ite (fun h1_0 => ?_) (fun h1_0 => ?_)
  · refine ee_tabIn (tgt := 52) dW_told_1 (by rw [h1_0]; decide) (by rw [h1_0]; decide) (by rw [h1_0]; rfl) (by decide) ?_
    refine ee_aload_n 0 dW_told_52 rfl ?_
    refine ee_getR dW_told_53 lfW_10 (fun v53 _ => ?_)
    refine ee_bind (fun _ ho56 => ?_)
    refine ee_callV (as := []) (st := []) dW_told_56 (t_fSettings_tiles v53 w) my_fSettings_tiles.1 (Nat.le_of_ble_eq_true rfl) my_fSettings_tiles.2 rfl cf_7.1 rfl (p_obj_eq.mp ho56) gw_714 gw_619 gw_620 ⟨Nat.le_of_ble_eq_true rfl, Nat.le_of_ble_eq_true rfl⟩ (Nat.le_of_ble_eq_true rfl) (fun rv56 w56 _ => ?_)
    refine ee_kI (fun v56 => ?_)
    exact ee_iret rfl dW_told_59
  · skip
    refine ee_ite (fun h1_1 => ?_) (fun h1_1 => ?_)
    · refine ee_tabIn (tgt := 60) dW_told_1 (by rw [h1_1]; decide) (by rw [h1_1]; decide) (by rw [h1_1]; rfl) (by decide) ?_
      refine ee_aload_n 0 dW_told_60 rfl ?_
      refine ee_getR dW_told_61 lfW_19 (fun v61 _ => ?_)
      refine ee_bind (fun _ ho64 => ?_)
      refine ee_callV (as := []) (st := []) dW_told_64 (t_fAL_size v61 w) my_fAL_size.1 (Nat.le_of_ble_eq_true rfl) my_fAL_size.2 rfl cf_11.1 rfl (p_obj_eq.mp ho64) gw_715 gw_436 gw_437 ⟨Nat.le_of_ble_eq_true rfl, Nat.le_of_ble_eq_true rfl⟩ (Nat.le_of_ble_eq_true rfl) (fun rv64 w64 _ => ?_)
      refine ee_kI (fun v64 => ?_)
      exact ee_iret rfl dW_told_67
    · skip
      refine ee_ite (fun h1_2 => ?_) (fun h1_2 => ?_)
      · refine ee_tabIn (tgt := 68) dW_told_1 (by rw [h1_2]; decide) (by rw [h1_2]; decide) (by rw [h1_2]; rfl) (by decide) ?_
        refine ee_aload_n 0 dW_told_68 rfl ?_
        refine ee_getR dW_told_69 lfW_23 (fun v69 _ => ?_)
        refine ee_bind (fun _ ho72 => ?_)
        refine ee_callV (as := []) (st := []) dW_told_72 (t_fAL_size v69 w) my_fAL_size.1 (Nat.le_of_ble_eq_true rfl) my_fAL_size.2 rfl cf_11.1 rfl (p_obj_eq.mp ho72) gw_715 gw_436 gw_437 ⟨Nat.le_of_ble_eq_true rfl, Nat.le_of_ble_eq_true rfl⟩ (Nat.le_of_ble_eq_true rfl) (fun rv72 w72 _ => ?_)
        refine ee_kI (fun v72 => ?_)
        exact ee_iret rfl dW_told_75
      · skip
        refine ee_ite (fun h1_3 => ?_) (fun h1_3 => ?_)
        · refine ee_tabIn (tgt := 76) dW_told_1 (by rw [h1_3]; decide) (by rw [h1_3]; decide) (by rw [h1_3]; rfl) (by decide) ?_
          refine ee_aload_n 0 dW_told_76 rfl ?_
          refine ee_getR dW_told_77 lfW_29 (fun v77 _ => ?_)
          refine ee_getR dW_told_80 lfW_218 (fun v80 _ => ?_)
          refine ee_getI dW_told_83 lfW_180 (fun v83 _ => ?_)
          exact ee_iret rfl dW_told_86
        · skip
          refine ee_ite (fun h1_4 => ?_) (fun h1_4 => ?_)
          · refine ee_tabIn (tgt := 87) dW_told_1 (by rw [h1_4]; decide) (by rw [h1_4]; decide) (by rw [h1_4]; rfl) (by decide) ?_
            refine ee_aload_n 0 dW_told_87 rfl ?_
            refine ee_getR dW_told_88 lfW_38 (fun v88 _ => ?_)
            refine ee_getI dW_told_91 lfW_180 (fun v91 _ => ?_)
            exact ee_iret rfl dW_told_94
          · skip
            refine ee_ite (fun h1_5 => ?_) (fun h1_5 => ?_)
            · refine ee_tabIn (tgt := 95) dW_told_1 (by rw [h1_5]; decide) (by rw [h1_5]; decide) (by rw [h1_5]; rfl) (by decide) ?_
              refine ee_aload_n 0 dW_told_95 rfl ?_
              refine ee_getR dW_told_96 lfW_71 (fun v96 _ => ?_)
              refine ee_getI dW_told_99 lfW_262 (fun v99 _ => ?_)
              exact ee_iret rfl dW_told_102
            · skip
              refine ee_ite (fun h1_6 => ?_) (fun h1_6 => ?_)
              · refine ee_tabIn (tgt := 103) dW_told_1 (by rw [h1_6]; decide) (by rw [h1_6]; decide) (by rw [h1_6]; rfl) (by decide) ?_
                refine ee_aload_n 0 dW_told_103 rfl ?_
                refine ee_getR dW_told_104 lfW_53 (fun v104 _ => ?_)
                refine ee_getR dW_told_107 lfW_281 (fun v107 _ => ?_)
                refine ee_getI dW_told_110 lfW_285 (fun v110 _ => ?_)
                exact ee_iret rfl dW_told_113
              · skip
                refine ee_ite (fun h1_7 => ?_) (fun h1_7 => ?_)
                · refine ee_tabIn (tgt := 114) dW_told_1 (by rw [h1_7]; decide) (by rw [h1_7]; decide) (by rw [h1_7]; rfl) (by decide) ?_
                  refine ee_aload_n 0 dW_told_114 rfl ?_
                  refine ee_getR dW_told_115 lfW_71 (fun v115 _ => ?_)
                  refine ee_bind (fun _ ho118 => ?_)
                  refine ee_callV (as := []) (st := []) dW_told_118 (t_fPartReader_spoiltOnes v115 w) my_fPartReader_spoiltOnes.1 (Nat.le_of_ble_eq_true rfl) my_fPartReader_spoiltOnes.2 rfl cf_6.1 rfl (p_obj_eq.mp ho118) gw_716 gw_717 gw_718 ⟨Nat.le_of_ble_eq_true rfl, Nat.le_of_ble_eq_true rfl⟩ (Nat.le_of_ble_eq_true rfl) (fun rv118 w118 _ => ?_)
                  refine ee_kI (fun v118 => ?_)
                  exact ee_iret rfl dW_told_121
                · skip
                  refine ee_ite (fun h1_8 => ?_) (fun h1_8 => ?_)
                  · refine ee_tabIn (tgt := 122) dW_told_1 (by rw [h1_8]; decide) (by rw [h1_8]; decide) (by rw [h1_8]; rfl) (by decide) ?_
                    refine ee_aload_n 0 dW_told_122 rfl ?_
                    refine ee_getR dW_told_123 lfW_71 (fun v123 _ => ?_)
                    refine ee_bind (fun _ ho126 => ?_)
                    refine ee_callV (as := []) (st := []) dW_told_126 (t_fPartReader_wholePackets v123 w) my_fPartReader_wholePackets.1 (Nat.le_of_ble_eq_true rfl) my_fPartReader_wholePackets.2 rfl cf_6.1 rfl (p_obj_eq.mp ho126) gw_724 gw_725 gw_726 ⟨Nat.le_of_ble_eq_true rfl, Nat.le_of_ble_eq_true rfl⟩ (Nat.le_of_ble_eq_true rfl) (fun rv126 w126 _ => ?_)
                    refine ee_kI (fun v126 => ?_)
                    exact ee_iret rfl dW_told_129
                  · skip
                    refine ee_tabOut (tgt := 130) dW_told_1 (by have e0 : ¬ Int32.toInt l1 = (0 : Int) := fun h => h1_0 (Int32.toInt_inj.mp (h.trans (show (0 : Int) = (0 : Int32).toInt by decide))); have e1 : ¬ Int32.toInt l1 = (1 : Int) := fun h => h1_1 (Int32.toInt_inj.mp (h.trans (show (1 : Int) = (1 : Int32).toInt by decide))); have e2 : ¬ Int32.toInt l1 = (2 : Int) := fun h => h1_2 (Int32.toInt_inj.mp (h.trans (show (2 : Int) = (2 : Int32).toInt by decide))); have e3 : ¬ Int32.toInt l1 = (3 : Int) := fun h => h1_3 (Int32.toInt_inj.mp (h.trans (show (3 : Int) = (3 : Int32).toInt by decide))); have e4 : ¬ Int32.toInt l1 = (4 : Int) := fun h => h1_4 (Int32.toInt_inj.mp (h.trans (show (4 : Int) = (4 : Int32).toInt by decide))); have e5 : ¬ Int32.toInt l1 = (5 : Int) := fun h => h1_5 (Int32.toInt_inj.mp (h.trans (show (5 : Int) = (5 : Int32).toInt by decide))); have e6 : ¬ Int32.toInt l1 = (6 : Int) := fun h => h1_6 (Int32.toInt_inj.mp (h.trans (show (6 : Int) = (6 : Int32).toInt by decide))); have e7 : ¬ Int32.toInt l1 = (7 : Int) := fun h => h1_7 (Int32.toInt_inj.mp (h.trans (show (7 : Int) = (7 : Int32).toInt by decide))); have e8 : ¬ Int32.toInt l1 = (8 : Int) := fun h => h1_8 (Int32.toInt_inj.mp (h.trans (show (8 : Int) = (8 : Int32).toInt by decide))); omega) (by decide) ?_
                    refine ee_iconst (v := (-1 : Int32)) dW_told_130 (by decide) ?_
                    exact ee_iret rfl dW_told_131
def fAL_clear_27T : Nat → Int32 → Int32 → PW → PX
  | 0, _, _, _ => none
  | n9 + 1, l2, l3, w => if l2 ≤ l3 then (some (.inl none, w)) else (none)
set_option maxRecDepth 20000 in
set_option maxHeartbeats 2000000 in
theorem t_fAL_clear_27T {Γ : PG} : ∀ (n9 : Nat) (l2 : Int32) (l3 : Int32) (w : PW), EE Γ MAL_clear 27 [(1, .retAddr 3), (2, .int l2), (3, .int l3)] [] w (fAL_clear_27T n9 l2 l3 w) := by
  intro n9
  induction n9 with
  | zero => intro l2 l3 w; exact ee_none
  | succ n9 ih =>
    intro l2 l3 w
    unfold fAL_clear_27T
    refine ee_iload_n 2 dAL_clear_27 rfl ?_
    refine ee_iload_n 1 dAL_clear_28 rfl ?_
    refine ee_icmp_ge (tgt := 42) dAL_clear_29 (by decide) (fun h29 => ?_) (fun h29 => ?_)
    · exact ee_vret rfl dAL_clear_42
    · refine ee_aload_nT 0 dAL_clear_32 rfl ?_
      refine ee_iload_n 2 dAL_clear_33 rfl ?_
      refine ee_null dAL_clear_34 ?_
      exact ee_none
def fAL_clear_27 : Nat → Nat → Int32 → Int32 → PW → PX
  | 0, _, _, _, _ => none
  | n9 + 1, l1, l2, l3, w => if l2 ≤ l3 then (some (.inl none, w)) else ((p_astR w l1 l3 none).bind fun w35 => p_let (l3 + (1 : Int32)) fun (l3_36 : Int32) => (fAL_clear_27 n9) l1 l2 l3_36 w35)
set_option maxRecDepth 20000 in
set_option maxHeartbeats 2000000 in
theorem t_fAL_clear_27 {Γ : PG} : ∀ (n9 : Nat) (l1 : Nat) (l2 : Int32) (l3 : Int32) (w : PW), EE Γ MAL_clear 27 [(1, .ref l1), (2, .int l2), (3, .int l3)] [] w (fAL_clear_27 n9 l1 l2 l3 w) := by
  intro n9
  induction n9 with
  | zero => intro l1 l2 l3 w; exact ee_none
  | succ n9 ih =>
    intro l1 l2 l3 w
    unfold fAL_clear_27
    refine ee_iload_n 2 dAL_clear_27 rfl ?_
    refine ee_iload_n 1 dAL_clear_28 rfl ?_
    refine ee_icmp_ge (tgt := 42) dAL_clear_29 (by decide) (fun h29 => ?_) (fun h29 => ?_)
    · exact ee_vret rfl dAL_clear_42
    · refine ee_aload_n 0 dAL_clear_32 rfl ?_
      refine ee_iload_n 2 dAL_clear_33 rfl ?_
      refine ee_null dAL_clear_34 ?_
      refine ee_aastN dAL_clear_35 (fun w35 _ => ?_)
      refine ee_iinc 2 dAL_clear_36 rfl (e := (1 : Int32)) (by decide) (Nat.le_of_ble_eq_true rfl) (fun l3_36 _ => ?_)
      refine ee_lv (lv2 := [(3, .int l3_36), (1, .ref l1), (2, .int l2)]) rfl ?_
      refine ee_goto (tgt := 27) dAL_clear_39 (by decide) ?_
      refine ee_pick [1, 2, 0] rfl ?_
      exact ih _ _ _ w35
def fAL_clear (l0 : Nat) (w : PW) : PX := (p_getI w l0 11 0).bind fun v2 => (p_put w l0 11 0 (.int (v2 + (1 : Int32)))).bind fun w7 => (p_getV w7 l0 11 1).bind fun v9 => p_spl v9 (fun v11 => (p_getI w7 l0 11 2).bind fun v16 => (p_put w7 l0 11 2 (.int (0 : Int32))).bind fun w23 => fAL_clear_27 FUEL v11 v16 (0 : Int32) w23) ((p_getI w7 l0 11 2).bind fun v16 => (p_put w7 l0 11 2 (.int (0 : Int32))).bind fun w23 => fAL_clear_27T FUEL v16 (0 : Int32) w23)
set_option maxRecDepth 20000 in
set_option maxHeartbeats 2000000 in
theorem t_fAL_clear {Γ : PG} : ∀ (l0 : Nat) (w : PW), EE Γ MAL_clear 0 (lv_args 0 [.ref l0]) [] w (fAL_clear l0 w) := by
  intro l0 w
  unfold fAL_clear
  show EE Γ MAL_clear 0 [(0, .ref l0)] [] w _
  refine ee_aload_n 0 dAL_clear_0 rfl ?_
  refine ee_dup dAL_clear_1 rfl ?_
  refine ee_getI dAL_clear_2 lfAL_63 (fun v2 _ => ?_)
  refine ee_iconst (v := (1 : Int32)) dAL_clear_5 (by decide) ?_
  refine ee_iadd dAL_clear_6 ?_
  refine ee_put dAL_clear_7 lpAL_63 (ee_nI _) (fun w7 _ => ?_)
  refine ee_aload_n 0 dAL_clear_10 rfl ?_
  refine ee_getV dAL_clear_11 lfAL_9 (fun v11 => ?_) ?_
  · refine ee_astore_n (lv2 := [(1, .ref v11), (0, .ref l0)]) dAL_clear_14 (Nat.le_of_ble_eq_true rfl) rfl ?_
    refine ee_aload_n 1 dAL_clear_15 rfl ?_
    refine ee_getI dAL_clear_16 lfAL_48 (fun v16 _ => ?_)
    refine ee_istore_n (lv2 := [(2, .int v16), (1, .ref v11), (0, .ref l0)]) dAL_clear_19 (Nat.le_of_ble_eq_true rfl) rfl ?_
    refine ee_aload_n 2 dAL_clear_20 rfl ?_
    refine ee_iconst (v := (0 : Int32)) dAL_clear_21 (by decide) ?_
    refine ee_dup_x1 dAL_clear_22 rfl rfl ?_
    refine ee_put dAL_clear_23 lpAL_48 (ee_nI _) (fun w23 _ => ?_)
    refine ee_istore_n (lv2 := [(3, .int (0 : Int32)), (2, .int v16), (1, .ref v11), (0, .ref l0)]) dAL_clear_26 (Nat.le_of_ble_eq_true rfl) rfl ?_
    refine ee_pick [2, 1, 0] rfl ?_
    exact t_fAL_clear_27 FUEL _ _ _ w23
  · refine ee_astore_nT (lv2 := [(1, .retAddr 3), (0, .ref l0)]) dAL_clear_14 (Nat.le_of_ble_eq_true rfl) rfl ?_
    refine ee_aload_n 1 dAL_clear_15 rfl ?_
    refine ee_getI dAL_clear_16 lfAL_48 (fun v16 _ => ?_)
    refine ee_istore_n (lv2 := [(2, .int v16), (1, .retAddr 3), (0, .ref l0)]) dAL_clear_19 (Nat.le_of_ble_eq_true rfl) rfl ?_
    refine ee_aload_n 2 dAL_clear_20 rfl ?_
    refine ee_iconst (v := (0 : Int32)) dAL_clear_21 (by decide) ?_
    refine ee_dup_x1 dAL_clear_22 rfl rfl ?_
    refine ee_put dAL_clear_23 lpAL_48 (ee_nI _) (fun w23 _ => ?_)
    refine ee_istore_n (lv2 := [(3, .int (0 : Int32)), (2, .int v16), (1, .retAddr 3), (0, .ref l0)]) dAL_clear_26 (Nat.le_of_ble_eq_true rfl) rfl ?_
    refine ee_pick [2, 1, 0] rfl ?_
    exact t_fAL_clear_27T FUEL _ _ w23
