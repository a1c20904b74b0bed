def fD_write_95 : Nat → Nat → Int32 → Int32 → Int32 → PW → PX
  | 0, _, _, _, _, _ => none
  | n9 + 1, l0, l1, l2, l3, w => if (4 : Int32) ≤ l3 then ((p_getI w l0 10 20).bind fun v128 => some (.inl (some (.int v128)), w)) else ((p_getR w l0 10 19).bind fun v101 => (p_ast w v101 0 (l1 + l3) ((p_ishr l2 ((24 : Int32) - ((8 : Int32) * l3))) &&& (255 : Int32))).bind fun w120 => p_let (l3 + (1 : Int32)) fun (l3_121 : Int32) => (fD_write_95 n9) l0 l1 l2 l3_121 w120)
set_option maxRecDepth 20000 in
set_option maxHeartbeats 2000000 in
theorem t_fD_write_95 {Γ : PG} : ∀ (n9 : Nat) (l0 : Nat) (l1 : Int32) (l2 : Int32) (l3 : Int32) (w : PW), EE Γ MD_write 95 [(0, .ref l0), (1, .int l1), (2, .int l2), (3, .int l3)] [] w (fD_write_95 n9 l0 l1 l2 l3 w) := by
  intro n9
  induction n9 with
  | zero => intro l0 l1 l2 l3 w; exact ee_none
  | succ n9 ih =>
    intro l0 l1 l2 l3 w
    unfold fD_write_95
    refine ee_iload_n 3 dD_write_95 rfl ?_
    refine ee_iconst (v := (4 : Int32)) dD_write_96 (by decide) ?_
    refine ee_icmp_ge (tgt := 127) dD_write_97 (by decide) (fun h97 => ?_) (fun h97 => ?_)
    · refine ee_aload_n 0 dD_write_127 rfl ?_
      refine ee_getI dD_write_128 lfD_212 (fun v128 _ => ?_)
      exact ee_iret rfl dD_write_131
    · refine ee_aload_n 0 dD_write_100 rfl ?_
      refine ee_getR dD_write_101 lfD_54 (fun v101 _ => ?_)
      refine ee_iload_n 1 dD_write_104 rfl ?_
      refine ee_iload_n 3 dD_write_105 rfl ?_
      refine ee_iadd dD_write_106 ?_
      refine ee_iload_n 2 dD_write_107 rfl ?_
      refine ee_bipush (v := (24 : Int32)) dD_write_108 (by decide) ?_
      refine ee_bipush (v := (8 : Int32)) dD_write_110 (by decide) ?_
      refine ee_iload_n 3 dD_write_112 rfl ?_
      refine ee_imul dD_write_113 ?_
      refine ee_isub dD_write_114 ?_
      refine ee_ishr dD_write_115 ?_
      refine ee_sipush (v := (255 : Int32)) dD_write_116 (by decide) ?_
      refine ee_iand dD_write_119 ?_
      refine ee_iast (t := 0) dD_write_120 rfl (fun w120 _ => ?_)
      refine ee_iinc 3 dD_write_121 rfl (e := (1 : Int32)) (by decide) (Nat.le_of_ble_eq_true rfl) (fun l3_121 _ => ?_)
      refine ee_lv (lv2 := [(3, .int l3_121), (0, .ref l0), (1, .int l1), (2, .int l2)]) rfl ?_
      refine ee_goto (tgt := 95) dD_write_124 (by decide) ?_
      refine ee_pick [1, 2, 3, 0] rfl ?_
      exact ih _ _ _ _ w120
def fD_write_46 (k_16 : Nat → Int32 → PW → PX) (k_23 : Nat → Int32 → Int32 → PW → PX) (l0 : Nat) (l1 : Int32) (l2 : Int32) (s0 : Int32) (s1 : Int32) (w : PW) : PX := if ¬ s1 = s0 then (p_let (l2 + (1 : Int32)) fun (l2_54 : Int32) => k_23 l0 l1 l2_54 w) else ((p_obj w l0 10).bind fun _ => p_call (fD_layBox l0 l2 w) <| p_kV fun w51 => p_let (l2 + (1 : Int32)) fun (l2_54 : Int32) => k_23 l0 l1 l2_54 w51)
set_option maxRecDepth 20000 in
set_option maxHeartbeats 2000000 in
theorem t_fD_write_46 {Γ : PG} {k_16 : Nat → Int32 → PW → PX} {k_23 : Nat → Int32 → Int32 → PW → PX} (hk_16 : ∀ (l0 : Nat) (l1 : Int32) (w : PW), EE Γ MD_write 16 [(0, .ref l0), (1, .int l1)] [] w (k_16 l0 l1 w)) (hk_23 : ∀ (l0 : Nat) (l1 : Int32) (l2 : Int32) (w : PW), EE Γ MD_write 23 [(0, .ref l0), (1, .int l1), (2, .int l2)] [] w (k_23 l0 l1 l2 w)) : ∀ (l0 : Nat) (l1 : Int32) (l2 : Int32) (s0 : Int32) (s1 : Int32) (w : PW), EE Γ MD_write 46 [(0, .ref l0), (1, .int l1), (2, .int l2)] [.int s0, .int s1] w (fD_write_46 k_16 k_23 l0 l1 l2 s0 s1 w) := by
  intro l0 l1 l2 s0 s1 w
  unfold fD_write_46
  refine ee_icmp_ne (tgt := 54) dD_write_46 (by decide) (fun h46 => ?_) (fun h46 => ?_)
  · refine ee_iinc 2 dD_write_54 rfl (e := (1 : Int32)) (by decide) (Nat.le_of_ble_eq_true rfl) (fun l2_54 _ => ?_)
    refine ee_lv (lv2 := [(2, .int l2_54), (0, .ref l0), (1, .int l1)]) rfl ?_
    refine ee_goto (tgt := 23) dD_write_57 (by decide) ?_
    refine ee_pick [1, 2, 0] rfl ?_
    exact hk_23 _ _ _ w
  · refine ee_aload_n 0 dD_write_49 rfl ?_
    refine ee_iload_n 2 dD_write_50 rfl ?_
    refine ee_bind (fun _ ho51 => ?_)
    refine ee_callV (as := [.int l2]) (st := []) dD_write_51 (t_fD_layBox l0 l2 w) my_fD_layBox.1 (Nat.le_of_ble_eq_true rfl) my_fD_layBox.2 rfl cf_10.1 rfl (p_obj_eq.mp ho51) gw_1431 gw_1433 gw_23 ⟨Nat.le_of_ble_eq_true rfl, Nat.le_of_ble_eq_true rfl⟩ (Nat.le_of_ble_eq_true rfl) (fun rv51 w51 _ => ?_)
    refine ee_kV ?_
    refine ee_iinc 2 dD_write_54 rfl (e := (1 : Int32)) (by decide) (Nat.le_of_ble_eq_true rfl) (fun l2_54 _ => ?_)
    refine ee_lv (lv2 := [(2, .int l2_54), (0, .ref l0), (1, .int l1)]) rfl ?_
    refine ee_goto (tgt := 23) dD_write_57 (by decide) ?_
    refine ee_pick [1, 2, 0] rfl ?_
    exact hk_23 _ _ _ w51
def fD_write_23 (k_16 : Nat → Int32 → PW → PX) : Nat → Nat → Int32 → Int32 → PW → PX
  | 0, _, _, _, _ => none
  | n9 + 1, l0, l1, l2, w => (p_getI w l0 10 14).bind fun v25 => if v25 ≤ l2 then (p_let (l1 + (1 : Int32)) fun (l1_60 : Int32) => k_16 l0 l1_60 w) else ((p_getR w l0 10 15).bind fun v32 => (p_ald w v32 2 l2).bind fun v36 => if ¬ l1 = 0 then (fD_write_46 k_16 (fD_write_23 k_16 n9) l0 l1 l2 (0 : Int32) v36 w) else (fD_write_46 k_16 (fD_write_23 k_16 n9) l0 l1 l2 (1 : Int32) v36 w))
set_option maxRecDepth 20000 in
set_option maxHeartbeats 2000000 in
theorem t_fD_write_23 {Γ : PG} {k_16 : Nat → Int32 → PW → PX} (hk_16 : ∀ (l0 : Nat) (l1 : Int32) (w : PW), EE Γ MD_write 16 [(0, .ref l0), (1, .int l1)] [] w (k_16 l0 l1 w)) : ∀ (n9 : Nat) (l0 : Nat) (l1 : Int32) (l2 : Int32) (w : PW), EE Γ MD_write 23 [(0, .ref l0), (1, .int l1), (2, .int l2)] [] w (fD_write_23 k_16 n9 l0 l1 l2 w) := by
  intro n9
  induction n9 with
  | zero => intro l0 l1 l2 w; exact ee_none
  | succ n9 ih =>
    intro l0 l1 l2 w
    unfold fD_write_23
    refine ee_iload_n 2 dD_write_23 rfl ?_
    refine ee_aload_n 0 dD_write_24 rfl ?_
    refine ee_getI dD_write_25 lfD_209 (fun v25 _ => ?_)
    refine ee_icmp_ge (tgt := 60) dD_write_28 (by decide) (fun h28 => ?_) (fun h28 => ?_)
    · refine ee_iinc 1 dD_write_60 rfl (e := (1 : Int32)) (by decide) (Nat.le_of_ble_eq_true rfl) (fun l1_60 _ => ?_)
      refine ee_lv (lv2 := [(1, .int l1_60), (0, .ref l0), (2, .int l2)]) rfl ?_
      refine ee_goto (tgt := 16) dD_write_63 (by decide) ?_
      refine ee_pick [1, 0] rfl ?_
      exact hk_16 _ _ w
    · refine ee_aload_n 0 dD_write_31 rfl ?_
      refine ee_getR dD_write_32 lfD_41 (fun v32 _ => ?_)
      refine ee_iload_n 2 dD_write_35 rfl ?_
      refine ee_zald (t := 2) dD_write_36 rfl (fun v36 _ => ?_)
      refine ee_iload_n 1 dD_write_37 rfl ?_
      refine ee_if_ne (tgt := 45) dD_write_38 (by decide) (fun h38 => ?_) (fun h38 => ?_)
      · refine ee_iconst (v := (0 : Int32)) dD_write_45 (by decide) ?_
        exact t_fD_write_46 hk_16 ih _ _ _ _ _ w
      · refine ee_iconst (v := (1 : Int32)) dD_write_41 (by decide) ?_
        refine ee_goto (tgt := 46) dD_write_42 (by decide) ?_
        exact t_fD_write_46 hk_16 ih _ _ _ _ _ w
def fD_write_16 : Nat → Nat → Int32 → PW → PX
  | 0, _, _, _ => none
  | n9 + 1, l0, l1, w => if (2 : Int32) ≤ l1 then ((p_getI w l0 10 20).bind fun v67 => (p_obj w l0 10).bind fun _ => p_call (fD_layFour l0 (0 : Int32) w) <| p_kV fun w73 => (p_obj w73 l0 10).bind fun _ => p_call (fD_layFour l0 (1785737827 : Int32) w73) <| p_kV fun w79 => (p_obj w79 l0 10).bind fun _ => p_call (fD_layStream l0 w79) <| p_kV fun w83 => (p_getI w83 l0 10 20).bind fun v87 => p_let ((v87 - v67)) fun (l2_92 : Int32) => fD_write_95 FUEL l0 v67 l2_92 (0 : Int32) w83) else (fD_write_23 (fD_write_16 n9) FUEL l0 l1 (0 : Int32) w)
set_option maxRecDepth 20000 in
set_option maxHeartbeats 2000000 in
theorem t_fD_write_16 {Γ : PG} : ∀ (n9 : Nat) (l0 : Nat) (l1 : Int32) (w : PW), EE Γ MD_write 16 [(0, .ref l0), (1, .int l1)] [] w (fD_write_16 n9 l0 l1 w) := by
  intro n9
  induction n9 with
  | zero => intro l0 l1 w; exact ee_none
  | succ n9 ih =>
    intro l0 l1 w
    unfold fD_write_16
    refine ee_iload_n 1 dD_write_16 rfl ?_
    refine ee_iconst (v := (2 : Int32)) dD_write_17 (by decide) ?_
    refine ee_icmp_ge (tgt := 66) dD_write_18 (by decide) (fun h18 => ?_) (fun h18 => ?_)
    · refine ee_aload_n 0 dD_write_66 rfl ?_
      refine ee_getI dD_write_67 lfD_212 (fun v67 _ => ?_)
      refine ee_istore_n (lv2 := [(1, .int v67), (0, .ref l0)]) dD_write_70 (Nat.le_of_ble_eq_true rfl) rfl ?_
      refine ee_aload_n 1 dD_write_71 rfl ?_
      refine ee_iconst (v := (0 : Int32)) dD_write_72 (by decide) ?_
      refine ee_bind (fun _ ho73 => ?_)
      refine ee_callV (as := [.int (0 : Int32)]) (st := []) dD_write_73 (t_fD_layFour l0 (0 : Int32) w) my_fD_layFour.1 (Nat.le_of_ble_eq_true rfl) my_fD_layFour.2 rfl cf_10.1 rfl (p_obj_eq.mp ho73) gw_1417 gw_1419 gw_20 ⟨Nat.le_of_ble_eq_true rfl, Nat.le_of_ble_eq_true rfl⟩ (Nat.le_of_ble_eq_true rfl) (fun rv73 w73 _ => ?_)
      refine ee_kV ?_
      refine ee_aload_n 1 dD_write_76 rfl ?_
      refine ee_ldc (v := (1785737827 : Int32)) dD_write_77 gw_1404 ?_
      refine ee_bind (fun _ ho79 => ?_)
      refine ee_callV (as := [.int (1785737827 : Int32)]) (st := []) dD_write_79 (t_fD_layFour l0 (1785737827 : Int32) w73) my_fD_layFour.1 (Nat.le_of_ble_eq_true rfl) my_fD_layFour.2 rfl cf_10.1 rfl (p_obj_eq.mp ho79) gw_1417 gw_1419 gw_20 ⟨Nat.le_of_ble_eq_true rfl, Nat.le_of_ble_eq_true rfl⟩ (Nat.le_of_ble_eq_true rfl) (fun rv79 w79 _ => ?_)
      refine ee_kV ?_
      refine ee_aload_n 1 dD_write_82 rfl ?_
      refine ee_bind (fun _ ho83 => ?_)
      refine ee_callV (as := []) (st := []) dD_write_83 (t_fD_layStream l0 w79) my_fD_layStream.1 (Nat.le_of_ble_eq_true rfl) my_fD_layStream.2 rfl cf_10.1 rfl (p_obj_eq.mp ho83) gw_1435 gw_1437 gw_24 ⟨Nat.le_of_ble_eq_true rfl, Nat.le_of_ble_eq_true rfl⟩ (Nat.le_of_ble_eq_true rfl) (fun rv83 w83 _ => ?_)
      refine ee_kV ?_
      refine ee_aload_n 1 dD_write_86 rfl ?_
      refine ee_getI dD_write_87 lfD_212 (fun v87 _ => ?_)
      refine ee_iload_n 0 dD_write_90 rfl ?_
      refine ee_isub dD_write_91 ?_
      refine ee_letI (fun l2_92 _ => ?_)
      refine ee_istore_n (lv2 := [(2, .int l2_92), (1, .int v67), (0, .ref l0)]) dD_write_92 (Nat.le_of_ble_eq_true rfl) rfl ?_
      refine ee_iconst (v := (0 : Int32)) dD_write_93 (by decide) ?_
      refine ee_istore_n (lv2 := [(3, .int (0 : Int32)), (2, .int l2_92), (1, .int v67), (0, .ref l0)]) dD_write_94 (Nat.le_of_ble_eq_true rfl) rfl ?_
      refine ee_pick [3, 2, 1, 0] rfl ?_
      exact t_fD_write_95 FUEL _ _ _ _ w83
    · refine ee_iconst (v := (0 : Int32)) dD_write_21 (by decide) ?_
      refine ee_istore_n (lv2 := [(2, .int (0 : Int32)), (0, .ref l0), (1, .int l1)]) dD_write_22 (Nat.le_of_ble_eq_true rfl) rfl ?_
      refine ee_pick [1, 2, 0] rfl ?_
      exact t_fD_write_23 ih FUEL _ _ _ w
def fD_write (l0 : Nat) (w : PW) : PX := (p_put w l0 10 0 (.int (0 : Int32))).bind fun w2 => (p_put w2 l0 10 20 (.int (0 : Int32))).bind fun w7 => (p_obj w7 l0 10).bind fun _ => p_call (fD_layHeads l0 w7) <| p_kV fun w11 => fD_write_16 FUEL l0 (0 : Int32) w11
set_option maxRecDepth 20000 in
set_option maxHeartbeats 2000000 in
theorem t_fD_write {Γ : PG} : ∀ (l0 : Nat) (w : PW), EE Γ MD_write 0 (lv_args 0 [.ref l0]) [] w (fD_write l0 w) := by
  intro l0 w
  unfold fD_write
  show EE Γ MD_write 0 [(0, .ref l0)] [] w _
  refine ee_aload_n 0 dD_write_0 rfl ?_
  refine ee_iconst (v := (0 : Int32)) dD_write_1 (by decide) ?_
  refine ee_put dD_write_2 lpD_110 (ee_nI _) (fun w2 _ => ?_)
  refine ee_aload_n 0 dD_write_5 rfl ?_
  refine ee_iconst (v := (0 : Int32)) dD_write_6 (by decide) ?_
  refine ee_put dD_write_7 lpD_212 (ee_nI _) (fun w7 _ => ?_)
  refine ee_aload_n 0 dD_write_10 rfl ?_
  refine ee_bind (fun _ ho11 => ?_)
  refine ee_callV (as := []) (st := []) dD_write_11 (t_fD_layHeads l0 w7) my_fD_layHeads.1 (Nat.le_of_ble_eq_true rfl) my_fD_layHeads.2 rfl cf_10.1 rfl (p_obj_eq.mp ho11) gw_1413 gw_1415 gw_19 ⟨Nat.le_of_ble_eq_true rfl, Nat.le_of_ble_eq_true rfl⟩ (Nat.le_of_ble_eq_true rfl) (fun rv11 w11 _ => ?_)
  refine ee_kV ?_
  refine ee_iconst (v := (0 : Int32)) dD_write_14 (by decide) ?_
  refine ee_istore_n (lv2 := [(1, .int (0 : Int32)), (0, .ref l0)]) dD_write_15 (Nat.le_of_ble_eq_true rfl) rfl ?_
  refine ee_pick [1, 0] rfl ?_
  exact t_fD_write_16 FUEL _ _ w11
def fD_byteAt_22 (l0 : Nat) (l1 : Int32) (s0 : Int32) (s1 : Nat) (w : PW) : PX := (p_put w s1 10 0 (.int s0)).bind fun w22 => (p_getI w22 l0 10 0).bind fun v26 => if v26 ≤ 0 then ((p_getR w22 l0 10 19).bind fun v37 => (p_ald w22 v37 0 l1).bind fun v41 => some (.inl (some (.int v41)), w22)) else (some (.inl (some (.int (0 : Int32))), w22))
set_option maxRecDepth 20000 in
set_option maxHeartbeats 2000000 in
theorem t_fD_byteAt_22 {Γ : PG} : ∀ (l0 : Nat) (l1 : Int32) (s0 : Int32) (s1 : Nat) (w : PW), EE Γ MD_byteAt 22 [(0, .ref l0), (1, .int l1)] [.int s0, .ref s1] w (fD_byteAt_22 l0 l1 s0 s1 w) := by
  intro l0 l1 s0 s1 w
  unfold fD_byteAt_22
  refine ee_put dD_byteAt_22 lpD_110 (ee_nI _) (fun w22 _ => ?_)
  refine ee_aload_n 0 dD_byteAt_25 rfl ?_
  refine ee_getI dD_byteAt_26 lfD_110 (fun v26 _ => ?_)
  refine ee_if_le (tgt := 36) dD_byteAt_29 (by decide) (fun h29 => ?_) (fun h29 => ?_)
  · refine ee_aload_n 0 dD_byteAt_36 rfl ?_
    refine ee_getR dD_byteAt_37 lfD_54 (fun v37 _ => ?_)
    refine ee_iload_n 1 dD_byteAt_40 rfl ?_
    refine ee_iald (t := 0) dD_byteAt_41 rfl (fun v41 _ => ?_)
    exact ee_iret rfl dD_byteAt_42
  · refine ee_iconst (v := (0 : Int32)) dD_byteAt_32 (by decide) ?_
    refine ee_goto (tgt := 42) dD_byteAt_33 (by decide) ?_
    exact ee_iret rfl dD_byteAt_42
def fD_byteAt (l0 : Nat) (l1 : Int32) (w : PW) : PX := (p_getI w l0 10 20).bind fun v5 => p_call (fD_in (Int32.toInt64 l1) (0 : Int64) ((Int32.toInt64 v5) - (1 : Int64)) w) <| p_kI fun v11 w11 => if v11 = 0 then (fD_byteAt_22 l0 l1 (1 : Int32) l0 w11) else (fD_byteAt_22 l0 l1 (0 : Int32) l0 w11)
set_option maxRecDepth 20000 in
set_option maxHeartbeats 2000000 in
theorem t_fD_byteAt {Γ : PG} : ∀ (l0 : Nat) (l1 : Int32) (w : PW), EE Γ MD_byteAt 0 (lv_args 0 [.ref l0, .int l1]) [] w (fD_byteAt l0 l1 w) := by
  intro l0 l1 w
  unfold fD_byteAt
  show EE Γ MD_byteAt 0 [(0, .ref l0), (1, .int l1)] [] w _
  refine ee_aload_n 0 dD_byteAt_0 rfl ?_
  refine ee_iload_n 1 dD_byteAt_1 rfl ?_
  refine ee_i2l dD_byteAt_2 ?_
  refine ee_lconst (v := (0 : Int64)) dD_byteAt_3 (by decide) ?_
  refine ee_aload_n 0 dD_byteAt_4 rfl ?_
  refine ee_getI dD_byteAt_5 lfD_212 (fun v5 _ => ?_)
  refine ee_i2l dD_byteAt_8 ?_
  refine ee_lconst (v := (1 : Int64)) dD_byteAt_9 (by decide) ?_
  refine ee_lsub dD_byteAt_10 ?_
  refine ee_callS (as := [.long (Int32.toInt64 l1), .long (0 : Int64), .long ((Int32.toInt64 v5) - (1 : Int64))]) (st := [.ref l0]) dD_byteAt_11 (t_fD_in (Int32.toInt64 l1) (0 : Int64) ((Int32.toInt64 v5) - (1 : Int64)) w) my_fD_in.1 (Nat.le_of_ble_eq_true rfl) my_fD_in.2 rfl gw_1320 gw_1321 ⟨Nat.le_of_ble_eq_true rfl, Nat.le_of_ble_eq_true rfl⟩ (Nat.le_of_ble_eq_true rfl) (fun rv11 w11 _ => ?_)
  refine ee_kI (fun v11 => ?_)
  refine ee_if_eq (tgt := 21) dD_byteAt_14 (by decide) (fun h14 => ?_) (fun h14 => ?_)
  · refine ee_iconst (v := (1 : Int32)) dD_byteAt_21 (by decide) ?_
    exact t_fD_byteAt_22 _ _ _ _ w11
  · refine ee_iconst (v := (0 : Int32)) dD_byteAt_17 (by decide) ?_
    refine ee_goto (tgt := 22) dD_byteAt_18 (by decide) ?_
    exact t_fD_byteAt_22 _ _ _ _ w11
def fD_feed_32 (l0 : Nat) (l1 : Int32) (s0 : Int32) (s1 : Nat) (w : PW) : PX := (p_put w s1 10 0 (.int s0)).bind fun w32 => (p_getI w32 l0 10 0).bind fun v36 => if v36 ≤ 0 then ((p_getR w32 l0 10 21).bind fun v45 => (p_getI w32 l0 10 22).bind fun v49 => (p_ast w32 v45 0 v49 l1).bind fun w53 => (p_getI w53 l0 10 22).bind fun v56 => (p_put w53 l0 10 22 (.int (v56 + (1 : Int32)))).bind fun w61 => (p_getI w61 l0 10 22).bind fun v65 => some (.inl (some (.int v65)), w61)) else (some (.inl (some (.int (0 : Int32))), w32))
set_option maxRecDepth 20000 in
set_option maxHeartbeats 2000000 in
theorem t_fD_feed_32 {Γ : PG} : ∀ (l0 : Nat) (l1 : Int32) (s0 : Int32) (s1 : Nat) (w : PW), EE Γ MD_feed 32 [(0, .ref l0), (1, .int l1)] [.int s0, .ref s1] w (fD_feed_32 l0 l1 s0 s1 w) := by
  intro l0 l1 s0 s1 w
  unfold fD_feed_32
  refine ee_put dD_feed_32 lpD_110 (ee_nI _) (fun w32 _ => ?_)
  refine ee_aload_n 0 dD_feed_35 rfl ?_
  refine ee_getI dD_feed_36 lfD_110 (fun v36 _ => ?_)
  refine ee_if_le (tgt := 44) dD_feed_39 (by decide) (fun h39 => ?_) (fun h39 => ?_)
  · refine ee_aload_n 0 dD_feed_44 rfl ?_
    refine ee_getR dD_feed_45 lfD_57 (fun v45 _ => ?_)
    refine ee_aload_n 0 dD_feed_48 rfl ?_
    refine ee_getI dD_feed_49 lfD_255 (fun v49 _ => ?_)
    refine ee_iload_n 1 dD_feed_52 rfl ?_
    refine ee_iast (t := 0) dD_feed_53 rfl (fun w53 _ => ?_)
    refine ee_aload_n 0 dD_feed_54 rfl ?_
    refine ee_dup dD_feed_55 rfl ?_
    refine ee_getI dD_feed_56 lfD_255 (fun v56 _ => ?_)
    refine ee_iconst (v := (1 : Int32)) dD_feed_59 (by decide) ?_
    refine ee_iadd dD_feed_60 ?_
    refine ee_put dD_feed_61 lpD_255 (ee_nI _) (fun w61 _ => ?_)
    refine ee_aload_n 0 dD_feed_64 rfl ?_
    refine ee_getI dD_feed_65 lfD_255 (fun v65 _ => ?_)
    exact ee_iret rfl dD_feed_68
  · refine ee_iconst (v := (0 : Int32)) dD_feed_42 (by decide) ?_
    exact ee_iret rfl dD_feed_43
def fD_feed (l0 : Nat) (l1 : Int32) (w : PW) : PX := p_call (fD_in (Int32.toInt64 l1) (0 : Int64) (255 : Int64) w) <| p_kI fun v7 w7 => if ¬ v7 = 0 then ((p_getI w7 l0 10 22).bind fun v18 => if ¬ v18 = (20000 : Int32) then (fD_feed_32 l0 l1 (0 : Int32) l0 w7) else (fD_feed_32 l0 l1 (2 : Int32) l0 w7)) else (fD_feed_32 l0 l1 (1 : Int32) l0 w7)
set_option maxRecDepth 20000 in
set_option maxHeartbeats 2000000 in
theorem t_fD_feed {Γ : PG} : ∀ (l0 : Nat) (l1 : Int32) (w : PW), EE Γ MD_feed 0 (lv_args 0 [.ref l0, .int l1]) [] w (fD_feed l0 l1 w) := by
  intro l0 l1 w
  unfold fD_feed
  show EE Γ MD_feed 0 [(0, .ref l0), (1, .int l1)] [] w _
  refine ee_aload_n 0 dD_feed_0 rfl ?_
  refine ee_iload_n 1 dD_feed_1 rfl ?_
  refine ee_i2l dD_feed_2 ?_
  refine ee_lconst (v := (0 : Int64)) dD_feed_3 (by decide) ?_
  refine ee_ldc2 (v := (255 : Int64)) dD_feed_4 gw_1390 ?_
  refine ee_callS (as := [.long (Int32.toInt64 l1), .long (0 : Int64), .long (255 : Int64)]) (st := [.ref l0]) dD_feed_7 (t_fD_in (Int32.toInt64 l1) (0 : Int64) (255 : Int64) w) my_fD_in.1 (Nat.le_of_ble_eq_true rfl) my_fD_in.2 rfl gw_1320 gw_1321 ⟨Nat.le_of_ble_eq_true rfl, Nat.le_of_ble_eq_true rfl⟩ (Nat.le_of_ble_eq_true rfl) (fun rv7 w7 _ => ?_)
  refine ee_kI (fun v7 => ?_)
  refine ee_if_ne (tgt := 17) dD_feed_10 (by decide) (fun h10 => ?_) (fun h10 => ?_)
  · refine ee_aload_n 0 dD_feed_17 rfl ?_
    refine ee_getI dD_feed_18 lfD_255 (fun v18 _ => ?_)
    refine ee_sipush (v := (20000 : Int32)) dD_feed_21 (by decide) ?_
    refine ee_icmp_ne (tgt := 31) dD_feed_24 (by decide) (fun h24 => ?_) (fun h24 => ?_)
    · refine ee_iconst (v := (0 : Int32)) dD_feed_31 (by decide) ?_
      exact t_fD_feed_32 _ _ _ _ w7
    · refine ee_iconst (v := (2 : Int32)) dD_feed_27 (by decide) ?_
      refine ee_goto (tgt := 32) dD_feed_28 (by decide) ?_
      exact t_fD_feed_32 _ _ _ _ w7
  · refine ee_iconst (v := (1 : Int32)) dD_feed_13 (by decide) ?_
    refine ee_goto (tgt := 32) dD_feed_14 (by decide) ?_
    exact t_fD_feed_32 _ _ _ _ w7
def fD_pass_82 : Nat → Nat → Int32 → Int32 → Int32 → PW → PX
  | 0, _, _, _, _, _ => none
  | n9 + 1, l0, l1, l3, l4, w => if l3 ≤ l4 then (some (.inl (some (.int l3)), w)) else ((p_getR w l0 10 21).bind fun v89 => (p_getI w l0 10 22).bind fun v93 => (p_getR w l0 10 19).bind fun v97 => (p_ald w v97 0 (l1 + l4)).bind fun v104 => (p_ast w v89 0 v93 v104).bind fun w105 => (p_getI w105 l0 10 22).bind fun v108 => (p_put w105 l0 10 22 (.int (v108 + (1 : Int32)))).bind fun w113 => p_let (l4 + (1 : Int32)) fun (l4_116 : Int32) => (fD_pass_82 n9) l0 l1 l3 l4_116 w113)
set_option maxRecDepth 20000 in
set_option maxHeartbeats 2000000 in
theorem t_fD_pass_82 {Γ : PG} : ∀ (n9 : Nat) (l0 : Nat) (l1 : Int32) (l3 : Int32) (l4 : Int32) (w : PW), EE Γ MD_pass 82 [(0, .ref l0), (1, .int l1), (3, .int l3), (4, .int l4)] [] w (fD_pass_82 n9 l0 l1 l3 l4 w) := by
  intro n9
  induction n9 with
  | zero => intro l0 l1 l3 l4 w; exact ee_none
  | succ n9 ih =>
    intro l0 l1 l3 l4 w
    unfold fD_pass_82
    refine ee_iload 3 dD_pass_82 rfl ?_
    refine ee_iload_n 2 dD_pass_84 rfl ?_
    refine ee_icmp_ge (tgt := 122) dD_pass_85 (by decide) (fun h85 => ?_) (fun h85 => ?_)
    · refine ee_iload_n 2 dD_pass_122 rfl ?_
      exact ee_iret rfl dD_pass_123
    · refine ee_aload_n 0 dD_pass_88 rfl ?_
      refine ee_getR dD_pass_89 lfD_57 (fun v89 _ => ?_)
      refine ee_aload_n 0 dD_pass_92 rfl ?_
      refine ee_getI dD_pass_93 lfD_255 (fun v93 _ => ?_)
      refine ee_aload_n 0 dD_pass_96 rfl ?_
      refine ee_getR dD_pass_97 lfD_54 (fun v97 _ => ?_)
      refine ee_iload_n 1 dD_pass_100 rfl ?_
      refine ee_iload 3 dD_pass_101 rfl ?_
      refine ee_iadd dD_pass_103 ?_
      refine ee_iald (t := 0) dD_pass_104 rfl (fun v104 _ => ?_)
      refine ee_iast (t := 0) dD_pass_105 rfl (fun w105 _ => ?_)
      refine ee_aload_n 0 dD_pass_106 rfl ?_
      refine ee_dup dD_pass_107 rfl ?_
      refine ee_getI dD_pass_108 lfD_255 (fun v108 _ => ?_)
      refine ee_iconst (v := (1 : Int32)) dD_pass_111 (by decide) ?_
      refine ee_iadd dD_pass_112 ?_
      refine ee_put dD_pass_113 lpD_255 (ee_nI _) (fun w113 _ => ?_)
      refine ee_iinc 3 dD_pass_116 rfl (e := (1 : Int32)) (by decide) (Nat.le_of_ble_eq_true rfl) (fun l4_116 _ => ?_)
      refine ee_lv (lv2 := [(4, .int l4_116), (0, .ref l0), (1, .int l1), (3, .int l3)]) rfl ?_
      refine ee_goto (tgt := 82) dD_pass_119 (by decide) ?_
      refine ee_pick [1, 2, 3, 0] rfl ?_
      exact ih _ _ _ _ w113
def fD_pass_67 (l0 : Nat) (l1 : Int32) (l3 : Int32) (s0 : Int32) (s1 : Nat) (w : PW) : PX := (p_put w s1 10 0 (.int s0)).bind fun w67 => (p_getI w67 l0 10 0).bind fun v71 => if v71 ≤ 0 then (fD_pass_82 FUEL l0 l1 l3 (0 : Int32) w67) else (some (.inl (some (.int (0 : Int32))), w67))
set_option maxRecDepth 20000 in
set_option maxHeartbeats 2000000 in
theorem t_fD_pass_67 {Γ : PG} : ∀ (l0 : Nat) (l1 : Int32) (l3 : Int32) (s0 : Int32) (s1 : Nat) (w : PW), EE Γ MD_pass 67 [(0, .ref l0), (1, .int l1), (3, .int l3)] [.int s0, .ref s1] w (fD_pass_67 l0 l1 l3 s0 s1 w) := by
  intro l0 l1 l3 s0 s1 w
  unfold fD_pass_67
  refine ee_put dD_pass_67 lpD_110 (ee_nI _) (fun w67 _ => ?_)
  refine ee_aload_n 0 dD_pass_70 rfl ?_
  refine ee_getI dD_pass_71 lfD_110 (fun v71 _ => ?_)
  refine ee_if_le (tgt := 79) dD_pass_74 (by decide) (fun h74 => ?_) (fun h74 => ?_)
  · refine ee_iconst (v := (0 : Int32)) dD_pass_79 (by decide) ?_
    refine ee_istore (lv2 := [(4, .int (0 : Int32)), (0, .ref l0), (1, .int l1), (3, .int l3)]) dD_pass_80 (Nat.le_of_ble_eq_true rfl) rfl ?_
    refine ee_pick [1, 2, 3, 0] rfl ?_
    exact t_fD_pass_82 FUEL _ _ _ _ w67
  · refine ee_iconst (v := (0 : Int32)) dD_pass_77 (by decide) ?_
    exact ee_iret rfl dD_pass_78
def fD_pass_20 (l0 : Nat) (l1 : Int32) (l2 : Int32) (s0 : Int32) (w : PW) : PX := (p_getI w l0 10 20).bind fun v26 => p_call (fD_in (Int32.toInt64 l1) (0 : Int64) ((Int32.toInt64 v26) - (1 : Int64)) w) <| p_kI fun v32 w32 => if ¬ v32 = 0 then (if 0 ≤ l2 then ((p_getI w32 l0 10 22).bind fun v51 => if (v51 + s0) ≤ (20000 : Int32) then (fD_pass_67 l0 l1 s0 (0 : Int32) l0 w32) else (fD_pass_67 l0 l1 s0 (3 : Int32) l0 w32)) else (fD_pass_67 l0 l1 s0 (2 : Int32) l0 w32)) else (fD_pass_67 l0 l1 s0 (1 : Int32) l0 w32)
set_option maxRecDepth 20000 in
set_option maxHeartbeats 2000000 in
theorem t_fD_pass_20 {Γ : PG} : ∀ (l0 : Nat) (l1 : Int32) (l2 : Int32) (s0 : Int32) (w : PW), EE Γ MD_pass 20 [(0, .ref l0), (1, .int l1), (2, .int l2)] [.int s0] w (fD_pass_20 l0 l1 l2 s0 w) := by
  intro l0 l1 l2 s0 w
  unfold fD_pass_20
  refine ee_istore_n (lv2 := [(3, .int s0), (0, .ref l0), (1, .int l1), (2, .int l2)]) dD_pass_20 (Nat.le_of_ble_eq_true rfl) rfl ?_
  refine ee_aload_n 1 dD_pass_21 rfl ?_
  refine ee_iload_n 2 dD_pass_22 rfl ?_
  refine ee_i2l dD_pass_23 ?_
  refine ee_lconst (v := (0 : Int64)) dD_pass_24 (by decide) ?_
  refine ee_aload_n 1 dD_pass_25 rfl ?_
  refine ee_getI dD_pass_26 lfD_212 (fun v26 _ => ?_)
  refine ee_i2l dD_pass_29 ?_
  refine ee_lconst (v := (1 : Int64)) dD_pass_30 (by decide) ?_
  refine ee_lsub dD_pass_31 ?_
  refine ee_callS (as := [.long (Int32.toInt64 l1), .long (0 : Int64), .long ((Int32.toInt64 v26) - (1 : Int64))]) (st := [.ref l0]) dD_pass_32 (t_fD_in (Int32.toInt64 l1) (0 : Int64) ((Int32.toInt64 v26) - (1 : Int64)) w) my_fD_in.1 (Nat.le_of_ble_eq_true rfl) my_fD_in.2 rfl gw_1320 gw_1321 ⟨Nat.le_of_ble_eq_true rfl, Nat.le_of_ble_eq_true rfl⟩ (Nat.le_of_ble_eq_true rfl) (fun rv32 w32 _ => ?_)
  refine ee_kI (fun v32 => ?_)
  refine ee_if_ne (tgt := 42) dD_pass_35 (by decide) (fun h35 => ?_) (fun h35 => ?_)
  · refine ee_iload_n 3 dD_pass_42 rfl ?_
    refine ee_if_ge (tgt := 50) dD_pass_43 (by decide) (fun h43 => ?_) (fun h43 => ?_)
    · refine ee_aload_n 1 dD_pass_50 rfl ?_
      refine ee_getI dD_pass_51 lfD_255 (fun v51 _ => ?_)
      refine ee_iload_n 0 dD_pass_54 rfl ?_
      refine ee_iadd dD_pass_55 ?_
      refine ee_sipush (v := (20000 : Int32)) dD_pass_56 (by decide) ?_
      refine ee_icmp_le (tgt := 66) dD_pass_59 (by decide) (fun h59 => ?_) (fun h59 => ?_)
      · refine ee_iconst (v := (0 : Int32)) dD_pass_66 (by decide) ?_
        refine ee_pick [1, 2, 0] rfl ?_
        exact t_fD_pass_67 _ _ _ _ _ w32
      · refine ee_iconst (v := (3 : Int32)) dD_pass_62 (by decide) ?_
        refine ee_goto (tgt := 67) dD_pass_63 (by decide) ?_
        refine ee_pick [1, 2, 0] rfl ?_
        exact t_fD_pass_67 _ _ _ _ _ w32
    · refine ee_iconst (v := (2 : Int32)) dD_pass_46 (by decide) ?_
      refine ee_goto (tgt := 67) dD_pass_47 (by decide) ?_
      refine ee_pick [1, 2, 0] rfl ?_
      exact t_fD_pass_67 _ _ _ _ _ w32
  · refine ee_iconst (v := (1 : Int32)) dD_pass_38 (by decide) ?_
    refine ee_goto (tgt := 67) dD_pass_39 (by decide) ?_
    refine ee_pick [1, 2, 0] rfl ?_
    exact t_fD_pass_67 _ _ _ _ _ w32
def fD_pass (l0 : Nat) (l1 : Int32) (l2 : Int32) (w : PW) : PX := (p_getI w l0 10 20).bind fun v2 => if (v2 - l1) ≤ l2 then ((p_getI w l0 10 20).bind fun v15 => fD_pass_20 l0 l1 l2 (v15 - l1) w) else (fD_pass_20 l0 l1 l2 l2 w)
set_option maxRecDepth 20000 in
set_option maxHeartbeats 2000000 in
theorem t_fD_pass {Γ : PG} : ∀ (l0 : Nat) (l1 : Int32) (l2 : Int32) (w : PW), EE Γ MD_pass 0 (lv_args 0 [.ref l0, .int l1, .int l2]) [] w (fD_pass l0 l1 l2 w) := by
  intro l0 l1 l2 w
  unfold fD_pass
  show EE Γ MD_pass 0 [(0, .ref l0), (1, .int l1), (2, .int l2)] [] w _
  refine ee_iload_n 2 dD_pass_0 rfl ?_
  refine ee_aload_n 0 dD_pass_1 rfl ?_
  refine ee_getI dD_pass_2 lfD_212 (fun v2 _ => ?_)
  refine ee_iload_n 1 dD_pass_5 rfl ?_
  refine ee_isub dD_pass_6 ?_
  refine ee_icmp_ge (tgt := 14) dD_pass_7 (by decide) (fun h7 => ?_) (fun h7 => ?_)
  · refine ee_aload_n 0 dD_pass_14 rfl ?_
    refine ee_getI dD_pass_15 lfD_212 (fun v15 _ => ?_)
    refine ee_iload_n 1 dD_pass_18 rfl ?_
    refine ee_isub dD_pass_19 ?_
    exact t_fD_pass_20 _ _ _ _ w
  · refine ee_iload_n 2 dD_pass_10 rfl ?_
    refine ee_goto (tgt := 20) dD_pass_11 (by decide) ?_
    exact t_fD_pass_20 _ _ _ _ w
def fD_alter_38 (l0 : Nat) (l1 : Int32) (l2 : Int32) (s0 : Int32) (s1 : Nat) (w : PW) : PX := (p_put w s1 10 0 (.int s0)).bind fun w38 => (p_getI w38 l0 10 0).bind fun v42 => if v42 ≤ 0 then ((p_getR w38 l0 10 21).bind fun v51 => (p_ald w38 v51 0 l1).bind fun v55 => (p_getR w38 l0 10 21).bind fun v58 => (p_ast w38 v58 0 l1 l2).bind fun w63 => some (.inl (some (.int v55)), w63)) else (some (.inl (some (.int (0 : Int32))), w38))
set_option maxRecDepth 20000 in
set_option maxHeartbeats 2000000 in
theorem t_fD_alter_38 {Γ : PG} : ∀ (l0 : Nat) (l1 : Int32) (l2 : Int32) (s0 : Int32) (s1 : Nat) (w : PW), EE Γ MD_alter 38 [(0, .ref l0), (1, .int l1), (2, .int l2)] [.int s0, .ref s1] w (fD_alter_38 l0 l1 l2 s0 s1 w) := by
  intro l0 l1 l2 s0 s1 w
  unfold fD_alter_38
  refine ee_put dD_alter_38 lpD_110 (ee_nI _) (fun w38 _ => ?_)
  refine ee_aload_n 0 dD_alter_41 rfl ?_
  refine ee_getI dD_alter_42 lfD_110 (fun v42 _ => ?_)
  refine ee_if_le (tgt := 50) dD_alter_45 (by decide) (fun h45 => ?_) (fun h45 => ?_)
  · refine ee_aload_n 0 dD_alter_50 rfl ?_
    refine ee_getR dD_alter_51 lfD_57 (fun v51 _ => ?_)
    refine ee_iload_n 1 dD_alter_54 rfl ?_
    refine ee_iald (t := 0) dD_alter_55 rfl (fun v55 _ => ?_)
    refine ee_istore_n (lv2 := [(3, .int v55), (0, .ref l0), (1, .int l1), (2, .int l2)]) dD_alter_56 (Nat.le_of_ble_eq_true rfl) rfl ?_
    refine ee_aload_n 1 dD_alter_57 rfl ?_
    refine ee_getR dD_alter_58 lfD_57 (fun v58 _ => ?_)
    refine ee_iload_n 2 dD_alter_61 rfl ?_
    refine ee_iload_n 3 dD_alter_62 rfl ?_
    refine ee_iast (t := 0) dD_alter_63 rfl (fun w63 _ => ?_)
    refine ee_iload_n 0 dD_alter_64 rfl ?_
    exact ee_iret rfl dD_alter_65
  · refine ee_iconst (v := (0 : Int32)) dD_alter_48 (by decide) ?_
    exact ee_iret rfl dD_alter_49
def fD_alter (l0 : Nat) (l1 : Int32) (l2 : Int32) (w : PW) : PX := (p_getI w l0 10 22).bind fun v5 => p_call (fD_in (Int32.toInt64 l1) (0 : Int64) ((Int32.toInt64 v5) - (1 : Int64)) w) <| p_kI fun v11 w11 => if ¬ v11 = 0 then (p_call (fD_in (Int32.toInt64 l2) (0 : Int64) (255 : Int64) w11) <| p_kI fun v27 w27 => if ¬ v27 = 0 then (fD_alter_38 l0 l1 l2 (0 : Int32) l0 w27) else (fD_alter_38 l0 l1 l2 (2 : Int32) l0 w27)) else (fD_alter_38 l0 l1 l2 (1 : Int32) l0 w11)
set_option maxRecDepth 20000 in
set_option maxHeartbeats 2000000 in
theorem t_fD_alter {Γ : PG} : ∀ (l0 : Nat) (l1 : Int32) (l2 : Int32) (w : PW), EE Γ MD_alter 0 (lv_args 0 [.ref l0, .int l1, .int l2]) [] w (fD_alter l0 l1 l2 w) := by
  intro l0 l1 l2 w
  unfold fD_alter
  show EE Γ MD_alter 0 [(0, .ref l0), (1, .int l1), (2, .int l2)] [] w _
  refine ee_aload_n 0 dD_alter_0 rfl ?_
  refine ee_iload_n 1 dD_alter_1 rfl ?_
  refine ee_i2l dD_alter_2 ?_
  refine ee_lconst (v := (0 : Int64)) dD_alter_3 (by decide) ?_
  refine ee_aload_n 0 dD_alter_4 rfl ?_
  refine ee_getI dD_alter_5 lfD_255 (fun v5 _ => ?_)
  refine ee_i2l dD_alter_8 ?_
  refine ee_lconst (v := (1 : Int64)) dD_alter_9 (by decide) ?_
  refine ee_lsub dD_alter_10 ?_
  refine ee_callS (as := [.long (Int32.toInt64 l1), .long (0 : Int64), .long ((Int32.toInt64 v5) - (1 : Int64))]) (st := [.ref l0]) dD_alter_11 (t_fD_in (Int32.toInt64 l1) (0 : Int64) ((Int32.toInt64 v5) - (1 : Int64)) w) my_fD_in.1 (Nat.le_of_ble_eq_true rfl) my_fD_in.2 rfl gw_1320 gw_1321 ⟨Nat.le_of_ble_eq_true rfl, Nat.le_of_ble_eq_true rfl⟩ (Nat.le_of_ble_eq_true rfl) (fun rv11 w11 _ => ?_)
  refine ee_kI (fun v11 => ?_)
  refine ee_if_ne (tgt := 21) dD_alter_14 (by decide) (fun h14 => ?_) (fun h14 => ?_)
  · refine ee_iload_n 2 dD_alter_21 rfl ?_
    refine ee_i2l dD_alter_22 ?_
    refine ee_lconst (v := (0 : Int64)) dD_alter_23 (by decide) ?_
    refine ee_ldc2 (v := (255 : Int64)) dD_alter_24 gw_1390 ?_
    refine ee_callS (as := [.long (Int32.toInt64 l2), .long (0 : Int64), .long (255 : Int64)]) (st := [.ref l0]) dD_alter_27 (t_fD_in (Int32.toInt64 l2) (0 : Int64) (255 : Int64) w11) my_fD_in.1 (Nat.le_of_ble_eq_true rfl) my_fD_in.2 rfl gw_1320 gw_1321 ⟨Nat.le_of_ble_eq_true rfl, Nat.le_of_ble_eq_true rfl⟩ (Nat.le_of_ble_eq_true rfl) (fun rv27 w27 _ => ?_)
    refine ee_kI (fun v27 => ?_)
    refine ee_if_ne (tgt := 37) dD_alter_30 (by decide) (fun h30 => ?_) (fun h30 => ?_)
    · refine ee_iconst (v := (0 : Int32)) dD_alter_37 (by decide) ?_
      exact t_fD_alter_38 _ _ _ _ _ w27
    · refine ee_iconst (v := (2 : Int32)) dD_alter_33 (by decide) ?_
      refine ee_goto (tgt := 38) dD_alter_34 (by decide) ?_
      exact t_fD_alter_38 _ _ _ _ _ w27
  · refine ee_iconst (v := (1 : Int32)) dD_alter_17 (by decide) ?_
    refine ee_goto (tgt := 38) dD_alter_18 (by decide) ?_
    exact t_fD_alter_38 _ _ _ _ _ w11
def fD_cut_39 (l0 : Nat) (s0 : Int32) (s1 : Nat) (w : PW) : PX := (p_put w s1 10 22 (.int s0)).bind fun w39 => (p_getI w39 l0 10 22).bind fun v43 => some (.inl (some (.int v43)), w39)
set_option maxRecDepth 20000 in
set_option maxHeartbeats 2000000 in
theorem t_fD_cut_39 {Γ : PG} : ∀ (l0 : Nat) (s0 : Int32) (s1 : Nat) (w : PW), EE Γ MD_cut 39 [(0, .ref l0)] [.int s0, .ref s1] w (fD_cut_39 l0 s0 s1 w) := by
  intro l0 s0 s1 w
  unfold fD_cut_39
  refine ee_put dD_cut_39 lpD_255 (ee_nI _) (fun w39 _ => ?_)
  refine ee_aload_n 0 dD_cut_42 rfl ?_
  refine ee_getI dD_cut_43 lfD_255 (fun v43 _ => ?_)
  exact ee_iret rfl dD_cut_46
def fD_cut_10 (l0 : Nat) (l1 : Int32) (s0 : Int32) (s1 : Nat) (w : PW) : PX := (p_put w s1 10 0 (.int s0)).bind fun w10 => (p_getI w10 l0 10 0).bind fun v14 => if v14 ≤ 0 then ((p_getI w10 l0 10 22).bind fun v25 => if v25 ≤ l1 then ((p_getI w10 l0 10 22).bind fun v36 => fD_cut_39 l0 v36 l0 w10) else (fD_cut_39 l0 l1 l0 w10)) else (some (.inl (some (.int (0 : Int32))), w10))
set_option maxRecDepth 20000 in
set_option maxHeartbeats 2000000 in
theorem t_fD_cut_10 {Γ : PG} : ∀ (l0 : Nat) (l1 : Int32) (s0 : Int32) (s1 : Nat) (w : PW), EE Γ MD_cut 10 [(0, .ref l0), (1, .int l1)] [.int s0, .ref s1] w (fD_cut_10 l0 l1 s0 s1 w) := by
  intro l0 l1 s0 s1 w
  unfold fD_cut_10
  refine ee_put dD_cut_10 lpD_110 (ee_nI _) (fun w10 _ => ?_)
  refine ee_aload_n 0 dD_cut_13 rfl ?_
  refine ee_getI dD_cut_14 lfD_110 (fun v14 _ => ?_)
  refine ee_if_le (tgt := 22) dD_cut_17 (by decide) (fun h17 => ?_) (fun h17 => ?_)
  · refine ee_aload_n 0 dD_cut_22 rfl ?_
    refine ee_iload_n 1 dD_cut_23 rfl ?_
    refine ee_aload_n 0 dD_cut_24 rfl ?_
    refine ee_getI dD_cut_25 lfD_255 (fun v25 _ => ?_)
    refine ee_icmp_ge (tgt := 35) dD_cut_28 (by decide) (fun h28 => ?_) (fun h28 => ?_)
    · refine ee_aload_n 0 dD_cut_35 rfl ?_
      refine ee_getI dD_cut_36 lfD_255 (fun v36 _ => ?_)
      refine ee_pick [0] rfl ?_
      exact t_fD_cut_39 _ _ _ w10
    · refine ee_iload_n 1 dD_cut_31 rfl ?_
      refine ee_goto (tgt := 39) dD_cut_32 (by decide) ?_
      refine ee_pick [0] rfl ?_
      exact t_fD_cut_39 _ _ _ w10
  · refine ee_iconst (v := (0 : Int32)) dD_cut_20 (by decide) ?_
    exact ee_iret rfl dD_cut_21
def fD_cut (l0 : Nat) (l1 : Int32) (w : PW) : PX := if 0 ≤ l1 then (fD_cut_10 l0 l1 (0 : Int32) l0 w) else (fD_cut_10 l0 l1 (1 : Int32) l0 w)
set_option maxRecDepth 20000 in
set_option maxHeartbeats 2000000 in
theorem t_fD_cut {Γ : PG} : ∀ (l0 : Nat) (l1 : Int32) (w : PW), EE Γ MD_cut 0 (lv_args 0 [.ref l0, .int l1]) [] w (fD_cut l0 l1 w) := by
  intro l0 l1 w
  unfold fD_cut
  show EE Γ MD_cut 0 [(0, .ref l0), (1, .int l1)] [] w _
  refine ee_aload_n 0 dD_cut_0 rfl ?_
  refine ee_iload_n 1 dD_cut_1 rfl ?_
  refine ee_if_ge (tgt := 9) dD_cut_2 (by decide) (fun h2 => ?_) (fun h2 => ?_)
  · refine ee_iconst (v := (0 : Int32)) dD_cut_9 (by decide) ?_
    exact t_fD_cut_10 _ _ _ _ w
  · refine ee_iconst (v := (1 : Int32)) dD_cut_5 (by decide) ?_
    refine ee_goto (tgt := 10) dD_cut_6 (by decide) ?_
    exact t_fD_cut_10 _ _ _ _ w
def fD_four (l0 : Nat) (l1 : Int32) (w : PW) : PX := (p_getR w l0 10 23).bind fun v1 => (p_ald w v1 0 l1).bind fun v5 => (p_getR w l0 10 23).bind fun v11 => (p_ald w v11 0 (l1 + (1 : Int32))).bind fun v17 => (p_getR w l0 10 23).bind fun v24 => (p_ald w v24 0 (l1 + (2 : Int32))).bind fun v30 => (p_getR w l0 10 23).bind fun v37 => (p_ald w v37 0 (l1 + (3 : Int32))).bind fun v43 => some (.inl (some (.long ((((p_lshl (Int32.toInt64 v5) (24 : Int32)) ||| (Int32.toInt64 (p_ishl v17 (16 : Int32)))) ||| (Int32.toInt64 (p_ishl v30 (8 : Int32)))) ||| (Int32.toInt64 v43)))), w)
set_option maxRecDepth 20000 in
set_option maxHeartbeats 2000000 in
theorem t_fD_four {Γ : PG} : ∀ (l0 : Nat) (l1 : Int32) (w : PW), EE Γ MD_four 0 (lv_args 0 [.ref l0, .int l1]) [] w (fD_four l0 l1 w) := by
  intro l0 l1 w
  unfold fD_four
  show EE Γ MD_four 0 [(0, .ref l0), (1, .int l1)] [] w _
  refine ee_aload_n 0 dD_four_0 rfl ?_
  refine ee_getR dD_four_1 lfD_60 (fun v1 _ => ?_)
  refine ee_iload_n 1 dD_four_4 rfl ?_
  refine ee_iald (t := 0) dD_four_5 rfl (fun v5 _ => ?_)
  refine ee_i2l dD_four_6 ?_
  refine ee_bipush (v := (24 : Int32)) dD_four_7 (by decide) ?_
  refine ee_lshl dD_four_9 ?_
  refine ee_aload_n 0 dD_four_10 rfl ?_
  refine ee_getR dD_four_11 lfD_60 (fun v11 _ => ?_)
  refine ee_iload_n 1 dD_four_14 rfl ?_
  refine ee_iconst (v := (1 : Int32)) dD_four_15 (by decide) ?_
  refine ee_iadd dD_four_16 ?_
  refine ee_iald (t := 0) dD_four_17 rfl (fun v17 _ => ?_)
  refine ee_bipush (v := (16 : Int32)) dD_four_18 (by decide) ?_
  refine ee_ishl dD_four_20 ?_
  refine ee_i2l dD_four_21 ?_
  refine ee_lor dD_four_22 ?_
  refine ee_aload_n 0 dD_four_23 rfl ?_
  refine ee_getR dD_four_24 lfD_60 (fun v24 _ => ?_)
  refine ee_iload_n 1 dD_four_27 rfl ?_
  refine ee_iconst (v := (2 : Int32)) dD_four_28 (by decide) ?_
  refine ee_iadd dD_four_29 ?_
  refine ee_iald (t := 0) dD_four_30 rfl (fun v30 _ => ?_)
  refine ee_bipush (v := (8 : Int32)) dD_four_31 (by decide) ?_
  refine ee_ishl dD_four_33 ?_
  refine ee_i2l dD_four_34 ?_
  refine ee_lor dD_four_35 ?_
  refine ee_aload_n 0 dD_four_36 rfl ?_
  refine ee_getR dD_four_37 lfD_60 (fun v37 _ => ?_)
  refine ee_iload_n 1 dD_four_40 rfl ?_
  refine ee_iconst (v := (3 : Int32)) dD_four_41 (by decide) ?_
  refine ee_iadd dD_four_42 ?_
  refine ee_iald (t := 0) dD_four_43 rfl (fun v43 _ => ?_)
  refine ee_i2l dD_four_44 ?_
  refine ee_lor dD_four_45 ?_
  exact ee_lret rfl dD_four_46
def fD_two (l0 : Nat) (l1 : Int32) (w : PW) : PX := (p_getR w l0 10 23).bind fun v1 => (p_ald w v1 0 l1).bind fun v5 => (p_getR w l0 10 23).bind fun v10 => (p_ald w v10 0 (l1 + (1 : Int32))).bind fun v16 => some (.inl (some (.int ((p_ishl v5 (8 : Int32)) ||| v16))), w)
set_option maxRecDepth 20000 in
set_option maxHeartbeats 2000000 in
theorem t_fD_two {Γ : PG} : ∀ (l0 : Nat) (l1 : Int32) (w : PW), EE Γ MD_two 0 (lv_args 0 [.ref l0, .int l1]) [] w (fD_two l0 l1 w) := by
  intro l0 l1 w
  unfold fD_two
  show EE Γ MD_two 0 [(0, .ref l0), (1, .int l1)] [] w _
  refine ee_aload_n 0 dD_two_0 rfl ?_
  refine ee_getR dD_two_1 lfD_60 (fun v1 _ => ?_)
  refine ee_iload_n 1 dD_two_4 rfl ?_
  refine ee_iald (t := 0) dD_two_5 rfl (fun v5 _ => ?_)
  refine ee_bipush (v := (8 : Int32)) dD_two_6 (by decide) ?_
  refine ee_ishl dD_two_8 ?_
  refine ee_aload_n 0 dD_two_9 rfl ?_
  refine ee_getR dD_two_10 lfD_60 (fun v10 _ => ?_)
  refine ee_iload_n 1 dD_two_13 rfl ?_
  refine ee_iconst (v := (1 : Int32)) dD_two_14 (by decide) ?_
  refine ee_iadd dD_two_15 ?_
  refine ee_iald (t := 0) dD_two_16 rfl (fun v16 _ => ?_)
  refine ee_ior dD_two_17 ?_
  exact ee_iret rfl dD_two_18
def fD_fails (l0 : Nat) (l1 : Int32) (w : PW) : PX := (p_getI w l0 10 41).bind fun v2 => if ¬ v2 = (-1 : Int32) then ((p_getI w l0 10 41).bind fun v14 => (p_put w l0 10 41 (.int v14)).bind fun w17 => p_retZ (0 : Int32) w17) else ((p_put w l0 10 41 (.int l1)).bind fun w17 => p_retZ (0 : Int32) w17)
set_option maxRecDepth 20000 in
set_option maxHeartbeats 2000000 in
theorem t_fD_fails {Γ : PG} : ∀ (l0 : Nat) (l1 : Int32) (w : PW), EE Γ MD_fails 0 (lv_args 0 [.ref l0, .int l1]) [] w (fD_fails l0 l1 w) := by
  intro l0 l1 w
  unfold fD_fails
  show EE Γ MD_fails 0 [(0, .ref l0), (1, .int l1)] [] w _
  refine ee_aload_n 0 dD_fails_0 rfl ?_
  refine ee_aload_n 0 dD_fails_1 rfl ?_
  refine ee_getI dD_fails_2 lfD_258 (fun v2 _ => ?_)
  refine ee_iconst (v := (-1 : Int32)) dD_fails_5 (by decide) ?_
  refine ee_icmp_ne (tgt := 13) dD_fails_6 (by decide) (fun h6 => ?_) (fun h6 => ?_)
  · refine ee_aload_n 0 dD_fails_13 rfl ?_
    refine ee_getI dD_fails_14 lfD_258 (fun v14 _ => ?_)
    refine ee_put dD_fails_17 lpD_258 (ee_nI _) (fun w17 _ => ?_)
    refine ee_iconst (v := (0 : Int32)) dD_fails_20 (by decide) ?_
    exact ee_zret rfl dD_fails_21
  · refine ee_iload_n 1 dD_fails_9 rfl ?_
    refine ee_goto (tgt := 17) dD_fails_10 (by decide) ?_
    refine ee_put dD_fails_17 lpD_258 (ee_nI _) (fun w17 _ => ?_)
    refine ee_iconst (v := (0 : Int32)) dD_fails_20 (by decide) ?_
    exact ee_zret rfl dD_fails_21
def fD_endOf_76 (l1 : Int32) (l2 : Int32) (l4 : Int64) (w : PW) : PX := if (lg_cmp l4 (8 : Int64)) < 0 then (some (.inl (some (.int (-1 : Int32))), w)) else (if (lg_cmp ((Int32.toInt64 l1) + l4) (Int32.toInt64 l2)) ≤ 0 then (some (.inl (some (.int (Int64.toInt32 ((Int32.toInt64 l1) + l4)))), w)) else (some (.inl (some (.int (-1 : Int32))), w)))
set_option maxRecDepth 20000 in
set_option maxHeartbeats 2000000 in
theorem t_fD_endOf_76 {Γ : PG} : ∀ (l1 : Int32) (l2 : Int32) (l4 : Int64) (w : PW), EE Γ MD_endOf 76 [(1, .int l1), (2, .int l2), (4, .long l4)] [] w (fD_endOf_76 l1 l2 l4 w) := by
  intro l1 l2 l4 w
  unfold fD_endOf_76
  refine ee_lload 2 dD_endOf_76 rfl ?_
  refine ee_ldc2 (v := (8 : Int64)) dD_endOf_78 gw_1515 ?_
  refine ee_lcmp dD_endOf_81 ?_
  refine ee_if_lt (tgt := 96) dD_endOf_82 (by decide) (fun h82 => ?_) (fun h82 => ?_)
  · refine ee_iconst (v := (-1 : Int32)) dD_endOf_96 (by decide) ?_
    refine ee_goto (tgt := 106) dD_endOf_97 (by decide) ?_
    exact ee_iret rfl dD_endOf_106
  · refine ee_iload_n 0 dD_endOf_85 rfl ?_
    refine ee_i2l dD_endOf_86 ?_
    refine ee_lload 2 dD_endOf_87 rfl ?_
    refine ee_ladd dD_endOf_89 ?_
    refine ee_iload_n 1 dD_endOf_90 rfl ?_
    refine ee_i2l dD_endOf_91 ?_
    refine ee_lcmp dD_endOf_92 ?_
    refine ee_if_le (tgt := 100) dD_endOf_93 (by decide) (fun h93 => ?_) (fun h93 => ?_)
    · refine ee_iload_n 0 dD_endOf_100 rfl ?_
      refine ee_i2l dD_endOf_101 ?_
      refine ee_lload 2 dD_endOf_102 rfl ?_
      refine ee_ladd dD_endOf_104 ?_
      refine ee_l2i dD_endOf_105 ?_
      exact ee_iret rfl dD_endOf_106
    · refine ee_iconst (v := (-1 : Int32)) dD_endOf_96 (by decide) ?_
      refine ee_goto (tgt := 106) dD_endOf_97 (by decide) ?_
      exact ee_iret rfl dD_endOf_106
def fD_endOf_40 (l1 : Int32) (l2 : Int32) (l4 : Int64) (s0 : Int32) (w : PW) : PX := if (lg_cmp l4 (0 : Int64)) = 0 then (some (.inl (some (.int l2)), w)) else (if s0 = 0 then (fD_endOf_76 l1 l2 l4 w) else (if (lg_cmp l4 (8 : Int64)) < 0 then (fD_endOf_76 l1 l2 l4 w) else (if (lg_cmp ((Int32.toInt64 l1) + l4) (Int32.toInt64 l2)) ≤ 0 then (fD_endOf_76 l1 l2 l4 w) else (some (.inl (some (.int l2)), w)))))
set_option maxRecDepth 20000 in
set_option maxHeartbeats 2000000 in
theorem t_fD_endOf_40 {Γ : PG} : ∀ (l1 : Int32) (l2 : Int32) (l4 : Int64) (s0 : Int32) (w : PW), EE Γ MD_endOf 40 [(1, .int l1), (2, .int l2), (4, .long l4)] [.int s0] w (fD_endOf_40 l1 l2 l4 s0 w) := by
  intro l1 l2 l4 s0 w
  unfold fD_endOf_40
  refine ee_istore (lv2 := [(6, .int s0), (1, .int l1), (2, .int l2), (4, .long l4)]) dD_endOf_40 (Nat.le_of_ble_eq_true rfl) rfl ?_
  refine ee_lload 3 dD_endOf_42 rfl ?_
  refine ee_lconst (v := (0 : Int64)) dD_endOf_44 (by decide) ?_
  refine ee_lcmp dD_endOf_45 ?_
  refine ee_if_eq (tgt := 74) dD_endOf_46 (by decide) (fun h46 => ?_) (fun h46 => ?_)
  · refine ee_iload_n 2 dD_endOf_74 rfl ?_
    exact ee_iret rfl dD_endOf_75
  · refine ee_iload 0 dD_endOf_49 rfl ?_
    refine ee_if_eq (tgt := 76) dD_endOf_51 (by decide) (fun h51 => ?_) (fun h51 => ?_)
    · refine ee_pick [1, 2, 3] rfl ?_
      exact t_fD_endOf_76 _ _ _ w
    · refine ee_lload 3 dD_endOf_54 rfl ?_
      refine ee_ldc2 (v := (8 : Int64)) dD_endOf_56 gw_1515 ?_
      refine ee_lcmp dD_endOf_59 ?_
      refine ee_if_lt (tgt := 76) dD_endOf_60 (by decide) (fun h60 => ?_) (fun h60 => ?_)
      · refine ee_pick [1, 2, 3] rfl ?_
        exact t_fD_endOf_76 _ _ _ w
      · refine ee_iload_n 1 dD_endOf_63 rfl ?_
        refine ee_i2l dD_endOf_64 ?_
        refine ee_lload 3 dD_endOf_65 rfl ?_
        refine ee_ladd dD_endOf_67 ?_
        refine ee_iload_n 2 dD_endOf_68 rfl ?_
        refine ee_i2l dD_endOf_69 ?_
        refine ee_lcmp dD_endOf_70 ?_
        refine ee_if_le (tgt := 76) dD_endOf_71 (by decide) (fun h71 => ?_) (fun h71 => ?_)
        · refine ee_pick [1, 2, 3] rfl ?_
          exact t_fD_endOf_76 _ _ _ w
        · refine ee_iload_n 2 dD_endOf_74 rfl ?_
          exact ee_iret rfl dD_endOf_75
def fD_endOf (l0 : Nat) (l1 : Int32) (l2 : Int32) (l3 : Int32) (w : PW) : PX := if (8 : Int32) ≤ (l2 - l1) then ((p_obj w l0 10).bind fun _ => p_call (fD_four l0 l1 w) <| p_kJ fun v12 w12 => (p_obj w12 l0 10).bind fun _ => p_call (fD_four l0 (l1 + (4 : Int32)) w12) <| p_kJ fun v21 w21 => if ¬ (lg_cmp v21 (1785737827 : Int64)) = 0 then (fD_endOf_40 l1 l2 v12 (0 : Int32) w21) else (if ¬ l3 = 0 then (fD_endOf_40 l1 l2 v12 (0 : Int32) w21) else (fD_endOf_40 l1 l2 v12 (1 : Int32) w21))) else (some (.inl (some (.int (-1 : Int32))), w))
set_option maxRecDepth 20000 in
set_option maxHeartbeats 2000000 in
theorem t_fD_endOf {Γ : PG} : ∀ (l0 : Nat) (l1 : Int32) (l2 : Int32) (l3 : Int32) (w : PW), EE Γ MD_endOf 0 (lv_args 0 [.ref l0, .int l1, .int l2, .int l3]) [] w (fD_endOf l0 l1 l2 l3 w) := by
  intro l0 l1 l2 l3 w
  unfold fD_endOf
  show EE Γ MD_endOf 0 [(0, .ref l0), (1, .int l1), (2, .int l2), (3, .int l3)] [] w _
  refine ee_iload_n 2 dD_endOf_0 rfl ?_
  refine ee_iload_n 1 dD_endOf_1 rfl ?_
  refine ee_isub dD_endOf_2 ?_
  refine ee_bipush (v := (8 : Int32)) dD_endOf_3 (by decide) ?_
  refine ee_icmp_ge (tgt := 10) dD_endOf_5 (by decide) (fun h5 => ?_) (fun h5 => ?_)
  · refine ee_aload_n 0 dD_endOf_10 rfl ?_
    refine ee_iload_n 1 dD_endOf_11 rfl ?_
    refine ee_bind (fun _ ho12 => ?_)
    refine ee_callV (as := [.int l1]) (st := []) dD_endOf_12 (t_fD_four l0 l1 w) my_fD_four.1 (Nat.le_of_ble_eq_true rfl) my_fD_four.2 rfl cf_10.1 rfl (p_obj_eq.mp ho12) gw_1499 gw_1501 gw_34 ⟨Nat.le_of_ble_eq_true rfl, Nat.le_of_ble_eq_true rfl⟩ (Nat.le_of_ble_eq_true rfl) (fun rv12 w12 _ => ?_)
    refine ee_kJ (fun v12 => ?_)
    refine ee_lstore (lv2 := [(4, .long v12), (0, .ref l0), (1, .int l1), (2, .int l2), (3, .int l3)]) dD_endOf_15 (Nat.le_of_ble_eq_true rfl) rfl ?_
    refine ee_aload_n 1 dD_endOf_17 rfl ?_
    refine ee_iload_n 2 dD_endOf_18 rfl ?_
    refine ee_iconst (v := (4 : Int32)) dD_endOf_19 (by decide) ?_
    refine ee_iadd dD_endOf_20 ?_
    refine ee_bind (fun _ ho21 => ?_)
    refine ee_callV (as := [.int (l1 + (4 : Int32))]) (st := []) dD_endOf_21 (t_fD_four l0 (l1 + (4 : Int32)) w12) my_fD_four.1 (Nat.le_of_ble_eq_true rfl) my_fD_four.2 rfl cf_10.1 rfl (p_obj_eq.mp ho21) gw_1499 gw_1501 gw_34 ⟨Nat.le_of_ble_eq_true rfl, Nat.le_of_ble_eq_true rfl⟩ (Nat.le_of_ble_eq_true rfl) (fun rv21 w21 _ => ?_)
    refine ee_kJ (fun v21 => ?_)
    refine ee_ldc2 (v := (1785737827 : Int64)) dD_endOf_24 gw_1514 ?_
    refine ee_lcmp dD_endOf_27 ?_
    refine ee_if_ne (tgt := 39) dD_endOf_28 (by decide) (fun h28 => ?_) (fun h28 => ?_)
    · refine ee_iconst (v := (0 : Int32)) dD_endOf_39 (by decide) ?_
      refine ee_pick [2, 3, 0] rfl ?_
      exact t_fD_endOf_40 _ _ _ _ w21
    · refine ee_iload_n 4 dD_endOf_31 rfl ?_
      refine ee_if_ne (tgt := 39) dD_endOf_32 (by decide) (fun h32 => ?_) (fun h32 => ?_)
      · refine ee_iconst (v := (0 : Int32)) dD_endOf_39 (by decide) ?_
        refine ee_pick [2, 3, 0] rfl ?_
        exact t_fD_endOf_40 _ _ _ _ w21
      · refine ee_iconst (v := (1 : Int32)) dD_endOf_35 (by decide) ?_
        refine ee_goto (tgt := 40) dD_endOf_36 (by decide) ?_
        refine ee_pick [2, 3, 0] rfl ?_
        exact t_fD_endOf_40 _ _ _ _ w21
  · refine ee_iconst (v := (-1 : Int32)) dD_endOf_8 (by decide) ?_
    exact ee_iret rfl dD_endOf_9
def fD_keepUnknown (l0 : Nat) (l1 : Int32) (l2 : Int32) (w : PW) : PX := (p_getR w l0 10 28).bind fun v1 => (p_getI w l0 10 27).bind fun v5 => (p_ast w v1 0 v5 l1).bind fun w9 => (p_getR w9 l0 10 29).bind fun v11 => (p_getI w9 l0 10 27).bind fun v15 => (p_ast w9 v11 0 v15 ((l2 - l1) - (8 : Int32))).bind fun w24 => (p_getI w24 l0 10 27).bind fun v27 => (p_put w24 l0 10 27 (.int (v27 + (1 : Int32)))).bind fun w32 => some (.inl none, w32)
set_option maxRecDepth 20000 in
set_option maxHeartbeats 2000000 in
theorem t_fD_keepUnknown {Γ : PG} : ∀ (l0 : Nat) (l1 : Int32) (l2 : Int32) (w : PW), EE Γ MD_keepUnknown 0 (lv_args 0 [.ref l0, .int l1, .int l2]) [] w (fD_keepUnknown l0 l1 l2 w) := by
  intro l0 l1 l2 w
  unfold fD_keepUnknown
  show EE Γ MD_keepUnknown 0 [(0, .ref l0), (1, .int l1), (2, .int l2)] [] w _
  refine ee_aload_n 0 dD_keepUnknown_0 rfl ?_
  refine ee_getR dD_keepUnknown_1 lfD_63 (fun v1 _ => ?_)
  refine ee_aload_n 0 dD_keepUnknown_4 rfl ?_
  refine ee_getI dD_keepUnknown_5 lfD_269 (fun v5 _ => ?_)
  refine ee_iload_n 1 dD_keepUnknown_8 rfl ?_
  refine ee_iast (t := 0) dD_keepUnknown_9 rfl (fun w9 _ => ?_)
  refine ee_aload_n 0 dD_keepUnknown_10 rfl ?_
  refine ee_getR dD_keepUnknown_11 lfD_66 (fun v11 _ => ?_)
  refine ee_aload_n 0 dD_keepUnknown_14 rfl ?_
  refine ee_getI dD_keepUnknown_15 lfD_269 (fun v15 _ => ?_)
  refine ee_iload_n 2 dD_keepUnknown_18 rfl ?_
  refine ee_iload_n 1 dD_keepUnknown_19 rfl ?_
  refine ee_isub dD_keepUnknown_20 ?_
  refine ee_bipush (v := (8 : Int32)) dD_keepUnknown_21 (by decide) ?_
  refine ee_isub dD_keepUnknown_23 ?_
  refine ee_iast (t := 0) dD_keepUnknown_24 rfl (fun w24 _ => ?_)
  refine ee_aload_n 0 dD_keepUnknown_25 rfl ?_
  refine ee_dup dD_keepUnknown_26 rfl ?_
  refine ee_getI dD_keepUnknown_27 lfD_269 (fun v27 _ => ?_)
  refine ee_iconst (v := (1 : Int32)) dD_keepUnknown_30 (by decide) ?_
  refine ee_iadd dD_keepUnknown_31 ?_
  refine ee_put dD_keepUnknown_32 lpD_269 (ee_nI _) (fun w32 _ => ?_)
  exact ee_vret rfl dD_keepUnknown_35
def fD_readInside_58 (l0 : Nat) (l3 : Int32) (w : PW) : PX := (p_obj w l0 10).bind fun _ => p_call (fD_fails l0 l3 w) <| p_kI fun v60 w60 => p_retZ v60 w60
set_option maxRecDepth 20000 in
set_option maxHeartbeats 2000000 in
theorem t_fD_readInside_58 {Γ : PG} : ∀ (l0 : Nat) (l3 : Int32) (w : PW), EE Γ MD_readInside 58 [(0, .ref l0), (3, .int l3)] [] w (fD_readInside_58 l0 l3 w) := by
  intro l0 l3 w
  unfold fD_readInside_58
  refine ee_aload_n 0 dD_readInside_58 rfl ?_
  refine ee_iload_n 1 dD_readInside_59 rfl ?_
  refine ee_bind (fun _ ho60 => ?_)
  refine ee_callV (as := [.int l3]) (st := []) dD_readInside_60 (t_fD_fails l0 l3 w) my_fD_fails.1 (Nat.le_of_ble_eq_true rfl) my_fD_fails.2 rfl cf_10.1 rfl (p_obj_eq.mp ho60) gw_1506 gw_1508 gw_35 ⟨Nat.le_of_ble_eq_true rfl, Nat.le_of_ble_eq_true rfl⟩ (Nat.le_of_ble_eq_true rfl) (fun rv60 w60 _ => ?_)
  refine ee_kI (fun v60 => ?_)
  exact ee_zret rfl dD_readInside_63
def fD_readInside_140 (k_5 : Nat → Int32 → Int32 → Int32 → PW → PX) (l0 : Nat) (l2 : Int32) (l5 : Int32) (w : PW) : PX := k_5 l0 l2 l5 (0 : Int32) w
set_option maxRecDepth 20000 in
set_option maxHeartbeats 2000000 in
theorem t_fD_readInside_140 {Γ : PG} {k_5 : Nat → Int32 → Int32 → Int32 → PW → PX} (hk_5 : ∀ (l0 : Nat) (l2 : Int32) (l3 : Int32) (l4 : Int32) (w : PW), EE Γ MD_readInside 5 [(0, .ref l0), (2, .int l2), (3, .int l3), (4, .int l4)] [] w (k_5 l0 l2 l3 l4 w)) : ∀ (l0 : Nat) (l2 : Int32) (l5 : Int32) (w : PW), EE Γ MD_readInside 140 [(0, .ref l0), (2, .int l2), (5, .int l5)] [] w (fD_readInside_140 k_5 l0 l2 l5 w) := by
  intro l0 l2 l5 w
  unfold fD_readInside_140
  refine ee_iconst (v := (0 : Int32)) dD_readInside_140 (by decide) ?_
  refine ee_istore (lv2 := [(4, .int (0 : Int32)), (0, .ref l0), (2, .int l2), (5, .int l5)]) dD_readInside_141 (Nat.le_of_ble_eq_true rfl) rfl ?_
  refine ee_iload 3 dD_readInside_143 rfl ?_
  refine ee_istore_n (lv2 := [(3, .int l5), (4, .int (0 : Int32)), (0, .ref l0), (2, .int l2), (5, .int l5)]) dD_readInside_145 (Nat.le_of_ble_eq_true rfl) rfl ?_
  refine ee_goto (tgt := 5) dD_readInside_146 (by decide) ?_
  refine ee_pick [2, 3, 0, 1] rfl ?_
  exact hk_5 _ _ _ _ w
def fD_readInside_105 (k_5 : Nat → Int32 → Int32 → Int32 → PW → PX) (l0 : Nat) (l2 : Int32) (l3 : Int32) (l4 : Int32) (l5 : Int32) (s0 : Int32) (w : PW) : PX := if s0 = 0 then (if ¬ l4 = 0 then (fD_readInside_140 k_5 l0 l2 l5 w) else ((p_obj w l0 10).bind fun _ => p_call (fD_keepUnknown l0 l3 l5 w) <| p_kV fun w137 => fD_readInside_140 k_5 l0 l2 l5 w137)) else ((p_obj w l0 10).bind fun _ => p_call (fD_four l0 (l3 + (11 : Int32)) w) <| p_kJ fun v118 w118 => (p_put w118 l0 10 26 (.int (Int64.toInt32 v118))).bind fun w122 => fD_readInside_140 k_5 l0 l2 l5 w122)
set_option maxRecDepth 20000 in
set_option maxHeartbeats 2000000 in
theorem t_fD_readInside_105 {Γ : PG} {k_5 : Nat → Int32 → Int32 → Int32 → PW → PX} (hk_5 : ∀ (l0 : Nat) (l2 : Int32) (l3 : Int32) (l4 : Int32) (w : PW), EE Γ MD_readInside 5 [(0, .ref l0), (2, .int l2), (3, .int l3), (4, .int l4)] [] w (k_5 l0 l2 l3 l4 w)) : ∀ (l0 : Nat) (l2 : Int32) (l3 : Int32) (l4 : Int32) (l5 : Int32) (s0 : Int32) (w : PW), EE Γ MD_readInside 105 [(0, .ref l0), (2, .int l2), (3, .int l3), (4, .int l4), (5, .int l5)] [.int s0] w (fD_readInside_105 k_5 l0 l2 l3 l4 l5 s0 w) := by
  intro l0 l2 l3 l4 l5 s0 w
  unfold fD_readInside_105
  refine ee_istore (lv2 := [(6, .int s0), (0, .ref l0), (2, .int l2), (3, .int l3), (4, .int l4), (5, .int l5)]) dD_readInside_105 (Nat.le_of_ble_eq_true rfl) rfl ?_
  refine ee_iload 0 dD_readInside_107 rfl ?_
  refine ee_if_eq (tgt := 128) dD_readInside_109 (by decide) (fun h109 => ?_) (fun h109 => ?_)
  · refine ee_iload 4 dD_readInside_128 rfl ?_
    refine ee_if_ne (tgt := 140) dD_readInside_130 (by decide) (fun h130 => ?_) (fun h130 => ?_)
    · refine ee_pick [1, 2, 5] rfl ?_
      exact t_fD_readInside_140 hk_5 _ _ _ w
    · refine ee_aload_n 1 dD_readInside_133 rfl ?_
      refine ee_iload_n 3 dD_readInside_134 rfl ?_
      refine ee_iload 5 dD_readInside_135 rfl ?_
      refine ee_bind (fun _ ho137 => ?_)
      refine ee_callV (as := [.int l3, .int l5]) (st := []) dD_readInside_137 (t_fD_keepUnknown l0 l3 l5 w) my_fD_keepUnknown.1 (Nat.le_of_ble_eq_true rfl) my_fD_keepUnknown.2 rfl cf_10.1 rfl (p_obj_eq.mp ho137) gw_1523 gw_1525 gw_38 ⟨Nat.le_of_ble_eq_true rfl, Nat.le_of_ble_eq_true rfl⟩ (Nat.le_of_ble_eq_true rfl) (fun rv137 w137 _ => ?_)
      refine ee_kV ?_
      refine ee_pick [1, 2, 5] rfl ?_
      exact t_fD_readInside_140 hk_5 _ _ _ w137
  · refine ee_aload_n 1 dD_readInside_112 rfl ?_
    refine ee_aload_n 1 dD_readInside_113 rfl ?_
    refine ee_iload_n 3 dD_readInside_114 rfl ?_
    refine ee_bipush (v := (11 : Int32)) dD_readInside_115 (by decide) ?_
    refine ee_iadd dD_readInside_117 ?_
    refine ee_bind (fun _ ho118 => ?_)
    refine ee_callV (as := [.int (l3 + (11 : Int32))]) (st := [.ref l0]) dD_readInside_118 (t_fD_four l0 (l3 + (11 : Int32)) w) my_fD_four.1 (Nat.le_of_ble_eq_true rfl) my_fD_four.2 rfl cf_10.1 rfl (p_obj_eq.mp ho118) gw_1499 gw_1501 gw_34 ⟨Nat.le_of_ble_eq_true rfl, Nat.le_of_ble_eq_true rfl⟩ (Nat.le_of_ble_eq_true rfl) (fun rv118 w118 _ => ?_)
    refine ee_kJ (fun v118 => ?_)
    refine ee_l2i dD_readInside_121 ?_
    refine ee_put dD_readInside_122 lpD_283 (ee_nI _) (fun w122 _ => ?_)
    refine ee_goto (tgt := 140) dD_readInside_125 (by decide) ?_
    refine ee_pick [1, 2, 5] rfl ?_
    exact t_fD_readInside_140 hk_5 _ _ _ w122
def fD_readInside_64 (k_5 : Nat → Int32 → Int32 → Int32 → PW → PX) (l0 : Nat) (l2 : Int32) (l3 : Int32) (l4 : Int32) (l5 : Int32) (w : PW) : PX := (p_obj w l0 10).bind fun _ => p_call (fD_four l0 (l3 + (4 : Int32)) w) <| p_kJ fun v68 w68 => if ¬ (lg_cmp v68 (1668246642 : Int64)) = 0 then (fD_readInside_105 k_5 l0 l2 l3 l4 l5 (0 : Int32) w68) else (if (l5 - l3) < (15 : Int32) then (fD_readInside_105 k_5 l0 l2 l3 l4 l5 (0 : Int32) w68) else ((p_getR w68 l0 10 23).bind fun v88 => (p_ald w68 v88 0 (l3 + (8 : Int32))).bind fun v95 => if ¬ v95 = (1 : Int32) then (fD_readInside_105 k_5 l0 l2 l3 l4 l5 (0 : Int32) w68) else (fD_readInside_105 k_5 l0 l2 l3 l4 l5 (1 : Int32) w68)))
set_option maxRecDepth 20000 in
set_option maxHeartbeats 2000000 in
theorem t_fD_readInside_64 {Γ : PG} {k_5 : Nat → Int32 → Int32 → Int32 → PW → PX} (hk_5 : ∀ (l0 : Nat) (l2 : Int32) (l3 : Int32) (l4 : Int32) (w : PW), EE Γ MD_readInside 5 [(0, .ref l0), (2, .int l2), (3, .int l3), (4, .int l4)] [] w (k_5 l0 l2 l3 l4 w)) : ∀ (l0 : Nat) (l2 : Int32) (l3 : Int32) (l4 : Int32) (l5 : Int32) (w : PW), EE Γ MD_readInside 64 [(0, .ref l0), (2, .int l2), (3, .int l3), (4, .int l4), (5, .int l5)] [] w (fD_readInside_64 k_5 l0 l2 l3 l4 l5 w) := by
  intro l0 l2 l3 l4 l5 w
  unfold fD_readInside_64
  refine ee_aload_n 0 dD_readInside_64 rfl ?_
  refine ee_iload_n 2 dD_readInside_65 rfl ?_
  refine ee_iconst (v := (4 : Int32)) dD_readInside_66 (by decide) ?_
  refine ee_iadd dD_readInside_67 ?_
  refine ee_bind (fun _ ho68 => ?_)
  refine ee_callV (as := [.int (l3 + (4 : Int32))]) (st := []) dD_readInside_68 (t_fD_four l0 (l3 + (4 : Int32)) w) my_fD_four.1 (Nat.le_of_ble_eq_true rfl) my_fD_four.2 rfl cf_10.1 rfl (p_obj_eq.mp ho68) gw_1499 gw_1501 gw_34 ⟨Nat.le_of_ble_eq_true rfl, Nat.le_of_ble_eq_true rfl⟩ (Nat.le_of_ble_eq_true rfl) (fun rv68 w68 _ => ?_)
  refine ee_kJ (fun v68 => ?_)
  refine ee_ldc2 (v := (1668246642 : Int64)) dD_readInside_71 gw_1522 ?_
  refine ee_lcmp dD_readInside_74 ?_
  refine ee_if_ne (tgt := 104) dD_readInside_75 (by decide) (fun h75 => ?_) (fun h75 => ?_)
  · refine ee_iconst (v := (0 : Int32)) dD_readInside_104 (by decide) ?_
    exact t_fD_readInside_105 hk_5 _ _ _ _ _ _ w68
  · refine ee_iload 4 dD_readInside_78 rfl ?_
    refine ee_iload_n 2 dD_readInside_80 rfl ?_
    refine ee_isub dD_readInside_81 ?_
    refine ee_bipush (v := (15 : Int32)) dD_readInside_82 (by decide) ?_
    refine ee_icmp_lt (tgt := 104) dD_readInside_84 (by decide) (fun h84 => ?_) (fun h84 => ?_)
    · refine ee_iconst (v := (0 : Int32)) dD_readInside_104 (by decide) ?_
      exact t_fD_readInside_105 hk_5 _ _ _ _ _ _ w68
    · refine ee_aload_n 0 dD_readInside_87 rfl ?_
      refine ee_getR dD_readInside_88 lfD_60 (fun v88 _ => ?_)
      refine ee_iload_n 2 dD_readInside_91 rfl ?_
      refine ee_bipush (v := (8 : Int32)) dD_readInside_92 (by decide) ?_
      refine ee_iadd dD_readInside_94 ?_
      refine ee_iald (t := 0) dD_readInside_95 rfl (fun v95 _ => ?_)
      refine ee_iconst (v := (1 : Int32)) dD_readInside_96 (by decide) ?_
      refine ee_icmp_ne (tgt := 104) dD_readInside_97 (by decide) (fun h97 => ?_) (fun h97 => ?_)
      · refine ee_iconst (v := (0 : Int32)) dD_readInside_104 (by decide) ?_
        exact t_fD_readInside_105 hk_5 _ _ _ _ _ _ w68
      · refine ee_iconst (v := (1 : Int32)) dD_readInside_100 (by decide) ?_
        refine ee_goto (tgt := 105) dD_readInside_101 (by decide) ?_
        exact t_fD_readInside_105 hk_5 _ _ _ _ _ _ w68
def fD_readInside_15 (k_5 : Nat → Int32 → Int32 → Int32 → PW → PX) (l0 : Nat) (l2 : Int32) (l3 : Int32) (l4 : Int32) (w : PW) : PX := (p_obj w l0 10).bind fun _ => p_call (fD_endOf l0 l3 l2 (1 : Int32) w) <| p_kI fun v19 w19 => if v19 = (-1 : Int32) then (fD_readInside_58 l0 l3 w19) else (if l4 = 0 then (fD_readInside_64 k_5 l0 l2 l3 l4 v19 w19) else ((p_obj w19 l0 10).bind fun _ => p_call (fD_four l0 (l3 + (4 : Int32)) w19) <| p_kJ fun v39 w39 => if ¬ (lg_cmp v39 (1768449138 : Int64)) = 0 then (fD_readInside_58 l0 l3 w39) else (if (v19 - l3) = (22 : Int32) then (fD_readInside_64 k_5 l0 l2 l3 l4 v19 w39) else (fD_readInside_58 l0 l3 w39))))
set_option maxRecDepth 20000 in
set_option maxHeartbeats 2000000 in
theorem t_fD_readInside_15 {Γ : PG} {k_5 : Nat → Int32 → Int32 → Int32 → PW → PX} (hk_5 : ∀ (l0 : Nat) (l2 : Int32) (l3 : Int32) (l4 : Int32) (w : PW), EE Γ MD_readInside 5 [(0, .ref l0), (2, .int l2), (3, .int l3), (4, .int l4)] [] w (k_5 l0 l2 l3 l4 w)) : ∀ (l0 : Nat) (l2 : Int32) (l3 : Int32) (l4 : Int32) (w : PW), EE Γ MD_readInside 15 [(0, .ref l0), (2, .int l2), (3, .int l3), (4, .int l4)] [] w (fD_readInside_15 k_5 l0 l2 l3 l4 w) := by
  intro l0 l2 l3 l4 w
  unfold fD_readInside_15
  refine ee_aload_n 0 dD_readInside_15 rfl ?_
  refine ee_iload_n 2 dD_readInside_16 rfl ?_
  refine ee_iload_n 1 dD_readInside_17 rfl ?_
  refine ee_iconst (v := (1 : Int32)) dD_readInside_18 (by decide) ?_
  refine ee_bind (fun _ ho19 => ?_)
  refine ee_callV (as := [.int l3, .int l2, .int (1 : Int32)]) (st := []) dD_readInside_19 (t_fD_endOf l0 l3 l2 (1 : Int32) w) my_fD_endOf.1 (Nat.le_of_ble_eq_true rfl) my_fD_endOf.2 rfl cf_10.1 rfl (p_obj_eq.mp ho19) gw_1510 gw_1512 gw_36 ⟨Nat.le_of_ble_eq_true rfl, Nat.le_of_ble_eq_true rfl⟩ (Nat.le_of_ble_eq_true rfl) (fun rv19 w19 _ => ?_)
  refine ee_kI (fun v19 => ?_)
  refine ee_istore (lv2 := [(5, .int v19), (0, .ref l0), (2, .int l2), (3, .int l3), (4, .int l4)]) dD_readInside_22 (Nat.le_of_ble_eq_true rfl) rfl ?_
  refine ee_iload 0 dD_readInside_24 rfl ?_
  refine ee_iconst (v := (-1 : Int32)) dD_readInside_26 (by decide) ?_
  refine ee_icmp_eq (tgt := 58) dD_readInside_27 (by decide) (fun h27 => ?_) (fun h27 => ?_)
  · refine ee_pick [1, 3] rfl ?_
    exact t_fD_readInside_58 _ _ w19
  · refine ee_iload 4 dD_readInside_30 rfl ?_
    refine ee_if_eq (tgt := 64) dD_readInside_32 (by decide) (fun h32 => ?_) (fun h32 => ?_)
    · refine ee_pick [1, 2, 3, 4, 0] rfl ?_
      exact t_fD_readInside_64 hk_5 _ _ _ _ _ w19
    · refine ee_aload_n 1 dD_readInside_35 rfl ?_
      refine ee_iload_n 3 dD_readInside_36 rfl ?_
      refine ee_iconst (v := (4 : Int32)) dD_readInside_37 (by decide) ?_
      refine ee_iadd dD_readInside_38 ?_
      refine ee_bind (fun _ ho39 => ?_)
      refine ee_callV (as := [.int (l3 + (4 : Int32))]) (st := []) dD_readInside_39 (t_fD_four l0 (l3 + (4 : Int32)) w19) my_fD_four.1 (Nat.le_of_ble_eq_true rfl) my_fD_four.2 rfl cf_10.1 rfl (p_obj_eq.mp ho39) gw_1499 gw_1501 gw_34 ⟨Nat.le_of_ble_eq_true rfl, Nat.le_of_ble_eq_true rfl⟩ (Nat.le_of_ble_eq_true rfl) (fun rv39 w39 _ => ?_)
      refine ee_kJ (fun v39 => ?_)
      refine ee_ldc2 (v := (1768449138 : Int64)) dD_readInside_42 gw_1521 ?_
      refine ee_lcmp dD_readInside_45 ?_
      refine ee_if_ne (tgt := 58) dD_readInside_46 (by decide) (fun h46 => ?_) (fun h46 => ?_)
      · refine ee_pick [1, 3] rfl ?_
        exact t_fD_readInside_58 _ _ w39
      · refine ee_iload 0 dD_readInside_49 rfl ?_
        refine ee_iload_n 3 dD_readInside_51 rfl ?_
        refine ee_isub dD_readInside_52 ?_
        refine ee_bipush (v := (22 : Int32)) dD_readInside_53 (by decide) ?_
        refine ee_icmp_eq (tgt := 64) dD_readInside_55 (by decide) (fun h55 => ?_) (fun h55 => ?_)
        · refine ee_pick [1, 2, 3, 4, 0] rfl ?_
          exact t_fD_readInside_64 hk_5 _ _ _ _ _ w39
        · refine ee_pick [1, 3] rfl ?_
          exact t_fD_readInside_58 _ _ w39
def fD_readInside_5 : Nat → Nat → Int32 → Int32 → Int32 → PW → PX
  | 0, _, _, _, _, _ => none
  | n9 + 1, l0, l2, l3, l4, w => if ¬ l4 = 0 then (fD_readInside_15 (fD_readInside_5 n9) l0 l2 l3 l4 w) else (if l2 ≤ l3 then (p_retZ (1 : Int32) w) else (fD_readInside_15 (fD_readInside_5 n9) l0 l2 l3 l4 w))
set_option maxRecDepth 20000 in
set_option maxHeartbeats 2000000 in
theorem t_fD_readInside_5 {Γ : PG} : ∀ (n9 : Nat) (l0 : Nat) (l2 : Int32) (l3 : Int32) (l4 : Int32) (w : PW), EE Γ MD_readInside 5 [(0, .ref l0), (2, .int l2), (3, .int l3), (4, .int l4)] [] w (fD_readInside_5 n9 l0 l2 l3 l4 w) := by
  intro n9
  induction n9 with
  | zero => intro l0 l2 l3 l4 w; exact ee_none
  | succ n9 ih =>
    intro l0 l2 l3 l4 w
    unfold fD_readInside_5
    refine ee_iload 3 dD_readInside_5 rfl ?_
    refine ee_if_ne (tgt := 15) dD_readInside_7 (by decide) (fun h7 => ?_) (fun h7 => ?_)
    · exact t_fD_readInside_15 ih _ _ _ _ w
    · refine ee_iload_n 2 dD_readInside_10 rfl ?_
      refine ee_iload_n 1 dD_readInside_11 rfl ?_
      refine ee_icmp_ge (tgt := 149) dD_readInside_12 (by decide) (fun h12 => ?_) (fun h12 => ?_)
      · refine ee_iconst (v := (1 : Int32)) dD_readInside_149 (by decide) ?_
        exact ee_zret rfl dD_readInside_150
      · exact t_fD_readInside_15 ih _ _ _ _ w
def fD_readInside (l0 : Nat) (l1 : Int32) (l2 : Int32) (w : PW) : PX := fD_readInside_5 FUEL l0 l2 l1 (1 : Int32) w
set_option maxRecDepth 20000 in
set_option maxHeartbeats 2000000 in
theorem t_fD_readInside {Γ : PG} : ∀ (l0 : Nat) (l1 : Int32) (l2 : Int32) (w : PW), EE Γ MD_readInside 0 (lv_args 0 [.ref l0, .int l1, .int l2]) [] w (fD_readInside l0 l1 l2 w) := by
  intro l0 l1 l2 w
  unfold fD_readInside
  show EE Γ MD_readInside 0 [(0, .ref l0), (1, .int l1), (2, .int l2)] [] w _
  refine ee_iload_n 1 dD_readInside_0 rfl ?_
  refine ee_istore_n (lv2 := [(3, .int l1), (0, .ref l0), (1, .int l1), (2, .int l2)]) dD_readInside_1 (Nat.le_of_ble_eq_true rfl) rfl ?_
  refine ee_iconst (v := (1 : Int32)) dD_readInside_2 (by decide) ?_
  refine ee_istore (lv2 := [(4, .int (1 : Int32)), (3, .int l1), (0, .ref l0), (1, .int l1), (2, .int l2)]) dD_readInside_3 (Nat.le_of_ble_eq_true rfl) rfl ?_
  refine ee_pick [2, 4, 1, 0] rfl ?_
  exact t_fD_readInside_5 FUEL _ _ _ _ w
