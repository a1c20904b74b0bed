def fD_isFirstRight (l0 : Nat) (w : PW) : PX := (p_getI w l0 10 24).bind fun v1 => if v1 < (12 : Int32) then (p_retZ (0 : Int32) w) else ((p_obj w l0 10).bind fun _ => p_call (fD_four l0 (0 : Int32) w) <| p_kJ fun v11 w11 => if ¬ (lg_cmp v11 (12 : Int64)) = 0 then (p_retZ (0 : Int32) w11) else ((p_obj w11 l0 10).bind fun _ => p_call (fD_four l0 (4 : Int32) w11) <| p_kJ fun v23 w23 => if ¬ (lg_cmp v23 (1783636000 : Int64)) = 0 then (p_retZ (0 : Int32) w23) else ((p_obj w23 l0 10).bind fun _ => p_call (fD_four l0 (8 : Int32) w23) <| p_kJ fun v36 w36 => if ¬ (lg_cmp v36 (218793738 : Int64)) = 0 then (p_retZ (0 : Int32) w36) else (p_retZ (1 : Int32) w36))))
set_option maxRecDepth 20000 in
set_option maxHeartbeats 2000000 in
theorem t_fD_isFirstRight {Γ : PG} : ∀ (l0 : Nat) (w : PW), EE Γ MD_isFirstRight 0 (lv_args 0 [.ref l0]) [] w (fD_isFirstRight l0 w) := by
  intro l0 w
  unfold fD_isFirstRight
  show EE Γ MD_isFirstRight 0 [(0, .ref l0)] [] w _
  refine ee_aload_n 0 dD_isFirstRight_0 rfl ?_
  refine ee_getI dD_isFirstRight_1 lfD_289 (fun v1 _ => ?_)
  refine ee_bipush (v := (12 : Int32)) dD_isFirstRight_4 (by decide) ?_
  refine ee_icmp_lt (tgt := 50) dD_isFirstRight_6 (by decide) (fun h6 => ?_) (fun h6 => ?_)
  · refine ee_iconst (v := (0 : Int32)) dD_isFirstRight_50 (by decide) ?_
    exact ee_zret rfl dD_isFirstRight_51
  · refine ee_aload_n 0 dD_isFirstRight_9 rfl ?_
    refine ee_iconst (v := (0 : Int32)) dD_isFirstRight_10 (by decide) ?_
    refine ee_bind (fun _ ho11 => ?_)
    refine ee_callV (as := [.int (0 : Int32)]) (st := []) dD_isFirstRight_11 (t_fD_four l0 (0 : Int32) w) my_fD_four.1 (Nat.le_of_ble_eq_true rfl) my_fD_four.2 rfl cf_10.1 rfl (p_obj_eq.mp ho11) gw_1499 gw_1501 gw_34 ⟨Nat.le_of_ble_eq_true rfl, Nat.le_of_ble_eq_true rfl⟩ (Nat.le_of_ble_eq_true rfl) (fun rv11 w11 _ => ?_)
    refine ee_kJ (fun v11 => ?_)
    refine ee_ldc2 (v := (12 : Int64)) dD_isFirstRight_14 gw_1503 ?_
    refine ee_lcmp dD_isFirstRight_17 ?_
    refine ee_if_ne (tgt := 50) dD_isFirstRight_18 (by decide) (fun h18 => ?_) (fun h18 => ?_)
    · refine ee_iconst (v := (0 : Int32)) dD_isFirstRight_50 (by decide) ?_
      exact ee_zret rfl dD_isFirstRight_51
    · refine ee_aload_n 0 dD_isFirstRight_21 rfl ?_
      refine ee_iconst (v := (4 : Int32)) dD_isFirstRight_22 (by decide) ?_
      refine ee_bind (fun _ ho23 => ?_)
      refine ee_callV (as := [.int (4 : Int32)]) (st := []) dD_isFirstRight_23 (t_fD_four l0 (4 : Int32) w11) my_fD_four.1 (Nat.le_of_ble_eq_true rfl) my_fD_four.2 rfl cf_10.1 rfl (p_obj_eq.mp ho23) gw_1499 gw_1501 gw_34 ⟨Nat.le_of_ble_eq_true rfl, Nat.le_of_ble_eq_true rfl⟩ (Nat.le_of_ble_eq_true rfl) (fun rv23 w23 _ => ?_)
      refine ee_kJ (fun v23 => ?_)
      refine ee_ldc2 (v := (1783636000 : Int64)) dD_isFirstRight_26 gw_1504 ?_
      refine ee_lcmp dD_isFirstRight_29 ?_
      refine ee_if_ne (tgt := 50) dD_isFirstRight_30 (by decide) (fun h30 => ?_) (fun h30 => ?_)
      · refine ee_iconst (v := (0 : Int32)) dD_isFirstRight_50 (by decide) ?_
        exact ee_zret rfl dD_isFirstRight_51
      · refine ee_aload_n 0 dD_isFirstRight_33 rfl ?_
        refine ee_bipush (v := (8 : Int32)) dD_isFirstRight_34 (by decide) ?_
        refine ee_bind (fun _ ho36 => ?_)
        refine ee_callV (as := [.int (8 : Int32)]) (st := []) dD_isFirstRight_36 (t_fD_four l0 (8 : Int32) w23) my_fD_four.1 (Nat.le_of_ble_eq_true rfl) my_fD_four.2 rfl cf_10.1 rfl (p_obj_eq.mp ho36) gw_1499 gw_1501 gw_34 ⟨Nat.le_of_ble_eq_true rfl, Nat.le_of_ble_eq_true rfl⟩ (Nat.le_of_ble_eq_true rfl) (fun rv36 w36 _ => ?_)
        refine ee_kJ (fun v36 => ?_)
        refine ee_ldc2 (v := (218793738 : Int64)) dD_isFirstRight_39 gw_1505 ?_
        refine ee_lcmp dD_isFirstRight_42 ?_
        refine ee_if_ne (tgt := 50) dD_isFirstRight_43 (by decide) (fun h43 => ?_) (fun h43 => ?_)
        · refine ee_iconst (v := (0 : Int32)) dD_isFirstRight_50 (by decide) ?_
          exact ee_zret rfl dD_isFirstRight_51
        · refine ee_iconst (v := (1 : Int32)) dD_isFirstRight_46 (by decide) ?_
          refine ee_goto (tgt := 51) dD_isFirstRight_47 (by decide) ?_
          exact ee_zret rfl dD_isFirstRight_51
def fD_readBoxes_16 : Nat → Nat → Int32 → PW → PX
  | 0, _, _, _ => none
  | n9 + 1, l0, l1, w => (p_getI w l0 10 24).bind fun v18 => if v18 ≤ l1 then ((p_getI w l0 10 24).bind fun v120 => (p_obj w l0 10).bind fun _ => p_call (fD_fails l0 v120 w) <| p_kI fun v123 w123 => p_retZ v123 w123) else ((p_getI w l0 10 24).bind fun v27 => (p_obj w l0 10).bind fun _ => p_call (fD_endOf l0 l1 v27 (0 : Int32) w) <| p_kI fun v31 w31 => if ¬ v31 = (-1 : Int32) then ((p_obj w31 l0 10).bind fun _ => p_call (fD_four l0 (l1 + (4 : Int32)) w31) <| p_kJ fun v50 w50 => if ¬ (lg_cmp v50 (1785737827 : Int64)) = 0 then (if ¬ (lg_cmp v50 (1785737832 : Int64)) = 0 then (if (lg_cmp v50 (1718909296 : Int64)) = 0 then ((fD_readBoxes_16 n9) l0 v31 w50) else ((p_obj w50 l0 10).bind fun _ => p_call (fD_keepUnknown l0 l1 v31 w50) <| p_kV fun w110 => (fD_readBoxes_16 n9) l0 v31 w110)) else ((p_obj w50 l0 10).bind fun _ => p_call (fD_readInside l0 (l1 + (8 : Int32)) v31 w50) <| p_kI fun v91 w91 => if ¬ v91 = 0 then ((fD_readBoxes_16 n9) l0 v31 w91) else (p_retZ (0 : Int32) w91))) else ((p_put w50 l0 10 39 (.int (l1 + (8 : Int32)))).bind fun w67 => (p_put w67 l0 10 40 (.int v31)).bind fun w72 => p_retZ (1 : Int32) w72)) else ((p_obj w31 l0 10).bind fun _ => p_call (fD_fails l0 l1 w31) <| p_kI fun v42 w42 => p_retZ v42 w42))
set_option maxRecDepth 20000 in
set_option maxHeartbeats 2000000 in
theorem t_fD_readBoxes_16 {Γ : PG} : ∀ (n9 : Nat) (l0 : Nat) (l1 : Int32) (w : PW), EE Γ MD_readBoxes 16 [(0, .ref l0), (1, .int l1)] [] w (fD_readBoxes_16 n9 l0 l1 w) := by
  intro n9
  induction n9 with
  | zero => intro l0 l1 w; exact ee_none
  | succ n9 ih =>
    intro l0 l1 w
    unfold fD_readBoxes_16
    refine ee_iload_n 1 dD_readBoxes_16 rfl ?_
    refine ee_aload_n 0 dD_readBoxes_17 rfl ?_
    refine ee_getI dD_readBoxes_18 lfD_289 (fun v18 _ => ?_)
    refine ee_icmp_ge (tgt := 118) dD_readBoxes_21 (by decide) (fun h21 => ?_) (fun h21 => ?_)
    · refine ee_aload_n 0 dD_readBoxes_118 rfl ?_
      refine ee_aload_n 0 dD_readBoxes_119 rfl ?_
      refine ee_getI dD_readBoxes_120 lfD_289 (fun v120 _ => ?_)
      refine ee_bind (fun _ ho123 => ?_)
      refine ee_callV (as := [.int v120]) (st := []) dD_readBoxes_123 (t_fD_fails l0 v120 w) my_fD_fails.1 (Nat.le_of_ble_eq_true rfl) my_fD_fails.2 rfl cf_10.1 rfl (p_obj_eq.mp ho123) gw_1506 gw_1508 gw_35 ⟨Nat.le_of_ble_eq_true rfl, Nat.le_of_ble_eq_true rfl⟩ (Nat.le_of_ble_eq_true rfl) (fun rv123 w123 _ => ?_)
      refine ee_kI (fun v123 => ?_)
      exact ee_zret rfl dD_readBoxes_126
    · refine ee_aload_n 0 dD_readBoxes_24 rfl ?_
      refine ee_iload_n 1 dD_readBoxes_25 rfl ?_
      refine ee_aload_n 0 dD_readBoxes_26 rfl ?_
      refine ee_getI dD_readBoxes_27 lfD_289 (fun v27 _ => ?_)
      refine ee_iconst (v := (0 : Int32)) dD_readBoxes_30 (by decide) ?_
      refine ee_bind (fun _ ho31 => ?_)
      refine ee_callV (as := [.int l1, .int v27, .int (0 : Int32)]) (st := []) dD_readBoxes_31 (t_fD_endOf l0 l1 v27 (0 : Int32) w) my_fD_endOf.1 (Nat.le_of_ble_eq_true rfl) my_fD_endOf.2 rfl cf_10.1 rfl (p_obj_eq.mp ho31) gw_1510 gw_1512 gw_36 ⟨Nat.le_of_ble_eq_true rfl, Nat.le_of_ble_eq_true rfl⟩ (Nat.le_of_ble_eq_true rfl) (fun rv31 w31 _ => ?_)
      refine ee_kI (fun v31 => ?_)
      refine ee_istore_n (lv2 := [(2, .int v31), (0, .ref l0), (1, .int l1)]) dD_readBoxes_34 (Nat.le_of_ble_eq_true rfl) rfl ?_
      refine ee_iload_n 0 dD_readBoxes_35 rfl ?_
      refine ee_iconst (v := (-1 : Int32)) dD_readBoxes_36 (by decide) ?_
      refine ee_icmp_ne (tgt := 46) dD_readBoxes_37 (by decide) (fun h37 => ?_) (fun h37 => ?_)
      · refine ee_aload_n 1 dD_readBoxes_46 rfl ?_
        refine ee_iload_n 2 dD_readBoxes_47 rfl ?_
        refine ee_iconst (v := (4 : Int32)) dD_readBoxes_48 (by decide) ?_
        refine ee_iadd dD_readBoxes_49 ?_
        refine ee_bind (fun _ ho50 => ?_)
        refine ee_callV (as := [.int (l1 + (4 : Int32))]) (st := []) dD_readBoxes_50 (t_fD_four l0 (l1 + (4 : Int32)) w31) my_fD_four.1 (Nat.le_of_ble_eq_true rfl) my_fD_four.2 rfl cf_10.1 rfl (p_obj_eq.mp ho50) gw_1499 gw_1501 gw_34 ⟨Nat.le_of_ble_eq_true rfl, Nat.le_of_ble_eq_true rfl⟩ (Nat.le_of_ble_eq_true rfl) (fun rv50 w50 _ => ?_)
        refine ee_kJ (fun v50 => ?_)
        refine ee_lstore_n (lv2 := [(3, .long v50), (2, .int v31), (0, .ref l0), (1, .int l1)]) dD_readBoxes_53 (Nat.le_of_ble_eq_true rfl) rfl ?_
        refine ee_lload_n 0 dD_readBoxes_54 rfl ?_
        refine ee_ldc2 (v := (1785737827 : Int64)) dD_readBoxes_55 gw_1514 ?_
        refine ee_lcmp dD_readBoxes_58 ?_
        refine ee_if_ne (tgt := 77) dD_readBoxes_59 (by decide) (fun h59 => ?_) (fun h59 => ?_)
        · refine ee_lload_n 0 dD_readBoxes_77 rfl ?_
          refine ee_ldc2 (v := (1785737832 : Int64)) dD_readBoxes_78 gw_1516 ?_
          refine ee_lcmp dD_readBoxes_81 ?_
          refine ee_if_ne (tgt := 99) dD_readBoxes_82 (by decide) (fun h82 => ?_) (fun h82 => ?_)
          · refine ee_lload_n 0 dD_readBoxes_99 rfl ?_
            refine ee_ldc2 (v := (1718909296 : Int64)) dD_readBoxes_100 gw_1527 ?_
            refine ee_lcmp dD_readBoxes_103 ?_
            refine ee_if_eq (tgt := 113) dD_readBoxes_104 (by decide) (fun h104 => ?_) (fun h104 => ?_)
            · refine ee_iload_n 1 dD_readBoxes_113 rfl ?_
              refine ee_istore_n (lv2 := [(1, .int v31), (3, .long v50), (2, .int v31), (0, .ref l0)]) dD_readBoxes_114 (Nat.le_of_ble_eq_true rfl) rfl ?_
              refine ee_goto (tgt := 16) dD_readBoxes_115 (by decide) ?_
              refine ee_pick [3, 0] rfl ?_
              exact ih _ _ w50
            · refine ee_aload_n 2 dD_readBoxes_107 rfl ?_
              refine ee_iload_n 3 dD_readBoxes_108 rfl ?_
              refine ee_iload_n 1 dD_readBoxes_109 rfl ?_
              refine ee_bind (fun _ ho110 => ?_)
              refine ee_callV (as := [.int l1, .int v31]) (st := []) dD_readBoxes_110 (t_fD_keepUnknown l0 l1 v31 w50) my_fD_keepUnknown.1 (Nat.le_of_ble_eq_true rfl) my_fD_keepUnknown.2 rfl cf_10.1 rfl (p_obj_eq.mp ho110) gw_1523 gw_1525 gw_38 ⟨Nat.le_of_ble_eq_true rfl, Nat.le_of_ble_eq_true rfl⟩ (Nat.le_of_ble_eq_true rfl) (fun rv110 w110 _ => ?_)
              refine ee_kV ?_
              refine ee_iload_n 1 dD_readBoxes_113 rfl ?_
              refine ee_istore_n (lv2 := [(1, .int v31), (3, .long v50), (2, .int v31), (0, .ref l0)]) dD_readBoxes_114 (Nat.le_of_ble_eq_true rfl) rfl ?_
              refine ee_goto (tgt := 16) dD_readBoxes_115 (by decide) ?_
              refine ee_pick [3, 0] rfl ?_
              exact ih _ _ w110
          · refine ee_aload_n 2 dD_readBoxes_85 rfl ?_
            refine ee_iload_n 3 dD_readBoxes_86 rfl ?_
            refine ee_bipush (v := (8 : Int32)) dD_readBoxes_87 (by decide) ?_
            refine ee_iadd dD_readBoxes_89 ?_
            refine ee_iload_n 1 dD_readBoxes_90 rfl ?_
            refine ee_bind (fun _ ho91 => ?_)
            refine ee_callV (as := [.int (l1 + (8 : Int32)), .int v31]) (st := []) dD_readBoxes_91 (t_fD_readInside l0 (l1 + (8 : Int32)) v31 w50) my_fD_readInside.1 (Nat.le_of_ble_eq_true rfl) my_fD_readInside.2 rfl cf_10.1 rfl (p_obj_eq.mp ho91) gw_1517 gw_1519 gw_37 ⟨Nat.le_of_ble_eq_true rfl, Nat.le_of_ble_eq_true rfl⟩ (Nat.le_of_ble_eq_true rfl) (fun rv91 w91 _ => ?_)
            refine ee_kI (fun v91 => ?_)
            refine ee_if_ne (tgt := 113) dD_readBoxes_94 (by decide) (fun h94 => ?_) (fun h94 => ?_)
            · refine ee_iload_n 1 dD_readBoxes_113 rfl ?_
              refine ee_istore_n (lv2 := [(1, .int v31), (3, .long v50), (2, .int v31), (0, .ref l0)]) dD_readBoxes_114 (Nat.le_of_ble_eq_true rfl) rfl ?_
              refine ee_goto (tgt := 16) dD_readBoxes_115 (by decide) ?_
              refine ee_pick [3, 0] rfl ?_
              exact ih _ _ w91
            · refine ee_iconst (v := (0 : Int32)) dD_readBoxes_97 (by decide) ?_
              exact ee_zret rfl dD_readBoxes_98
        · refine ee_aload_n 2 dD_readBoxes_62 rfl ?_
          refine ee_iload_n 3 dD_readBoxes_63 rfl ?_
          refine ee_bipush (v := (8 : Int32)) dD_readBoxes_64 (by decide) ?_
          refine ee_iadd dD_readBoxes_66 ?_
          refine ee_put dD_readBoxes_67 lpD_301 (ee_nI _) (fun w67 _ => ?_)
          refine ee_aload_n 2 dD_readBoxes_70 rfl ?_
          refine ee_iload_n 1 dD_readBoxes_71 rfl ?_
          refine ee_put dD_readBoxes_72 lpD_304 (ee_nI _) (fun w72 _ => ?_)
          refine ee_iconst (v := (1 : Int32)) dD_readBoxes_75 (by decide) ?_
          exact ee_zret rfl dD_readBoxes_76
      · refine ee_aload_n 1 dD_readBoxes_40 rfl ?_
        refine ee_iload_n 2 dD_readBoxes_41 rfl ?_
        refine ee_bind (fun _ ho42 => ?_)
        refine ee_callV (as := [.int l1]) (st := []) dD_readBoxes_42 (t_fD_fails l0 l1 w31) my_fD_fails.1 (Nat.le_of_ble_eq_true rfl) my_fD_fails.2 rfl cf_10.1 rfl (p_obj_eq.mp ho42) gw_1506 gw_1508 gw_35 ⟨Nat.le_of_ble_eq_true rfl, Nat.le_of_ble_eq_true rfl⟩ (Nat.le_of_ble_eq_true rfl) (fun rv42 w42 _ => ?_)
        refine ee_kI (fun v42 => ?_)
        exact ee_zret rfl dD_readBoxes_45
def fD_readBoxes (l0 : Nat) (w : PW) : PX := (p_obj w l0 10).bind fun _ => p_call (fD_isFirstRight l0 w) <| p_kI fun v1 w1 => if ¬ v1 = 0 then (fD_readBoxes_16 FUEL l0 (12 : Int32) w1) else ((p_obj w1 l0 10).bind fun _ => p_call (fD_fails l0 (0 : Int32) w1) <| p_kI fun v9 w9 => p_retZ v9 w9)
set_option maxRecDepth 20000 in
set_option maxHeartbeats 2000000 in
theorem t_fD_readBoxes {Γ : PG} : ∀ (l0 : Nat) (w : PW), EE Γ MD_readBoxes 0 (lv_args 0 [.ref l0]) [] w (fD_readBoxes l0 w) := by
  intro l0 w
  unfold fD_readBoxes
  show EE Γ MD_readBoxes 0 [(0, .ref l0)] [] w _
  refine ee_aload_n 0 dD_readBoxes_0 rfl ?_
  refine ee_bind (fun _ ho1 => ?_)
  refine ee_callV (as := []) (st := []) dD_readBoxes_1 (t_fD_isFirstRight l0 w) my_fD_isFirstRight.1 (Nat.le_of_ble_eq_true rfl) my_fD_isFirstRight.2 rfl cf_10.1 rfl (p_obj_eq.mp ho1) gw_1495 gw_1497 gw_33 ⟨Nat.le_of_ble_eq_true rfl, Nat.le_of_ble_eq_true rfl⟩ (Nat.le_of_ble_eq_true rfl) (fun rv1 w1 _ => ?_)
  refine ee_kI (fun v1 => ?_)
  refine ee_if_ne (tgt := 13) dD_readBoxes_4 (by decide) (fun h4 => ?_) (fun h4 => ?_)
  · refine ee_bipush (v := (12 : Int32)) dD_readBoxes_13 (by decide) ?_
    refine ee_istore_n (lv2 := [(1, .int (12 : Int32)), (0, .ref l0)]) dD_readBoxes_15 (Nat.le_of_ble_eq_true rfl) rfl ?_
    refine ee_pick [1, 0] rfl ?_
    exact t_fD_readBoxes_16 FUEL _ _ w1
  · refine ee_aload_n 0 dD_readBoxes_7 rfl ?_
    refine ee_iconst (v := (0 : Int32)) dD_readBoxes_8 (by decide) ?_
    refine ee_bind (fun _ ho9 => ?_)
    refine ee_callV (as := [.int (0 : Int32)]) (st := []) dD_readBoxes_9 (t_fD_fails l0 (0 : Int32) w1) my_fD_fails.1 (Nat.le_of_ble_eq_true rfl) my_fD_fails.2 rfl cf_10.1 rfl (p_obj_eq.mp ho9) gw_1506 gw_1508 gw_35 ⟨Nat.le_of_ble_eq_true rfl, Nat.le_of_ble_eq_true rfl⟩ (Nat.le_of_ble_eq_true rfl) (fun rv9 w9 _ => ?_)
    refine ee_kI (fun v9 => ?_)
    exact ee_zret rfl dD_readBoxes_12
def fD_readSizes_44 (l0 : Nat) (w : PW) : PX := (p_getI w l0 10 39).bind fun v46 => (p_obj w l0 10).bind fun _ => p_call (fD_fails l0 v46 w) <| p_kI fun v49 w49 => p_retZ v49 w49
set_option maxRecDepth 20000 in
set_option maxHeartbeats 2000000 in
theorem t_fD_readSizes_44 {Γ : PG} : ∀ (l0 : Nat) (w : PW), EE Γ MD_readSizes 44 [(0, .ref l0)] [] w (fD_readSizes_44 l0 w) := by
  intro l0 w
  unfold fD_readSizes_44
  refine ee_aload_n 0 dD_readSizes_44 rfl ?_
  refine ee_aload_n 0 dD_readSizes_45 rfl ?_
  refine ee_getI dD_readSizes_46 lfD_301 (fun v46 _ => ?_)
  refine ee_bind (fun _ ho49 => ?_)
  refine ee_callV (as := [.int v46]) (st := []) dD_readSizes_49 (t_fD_fails l0 v46 w) my_fD_fails.1 (Nat.le_of_ble_eq_true rfl) my_fD_fails.2 rfl cf_10.1 rfl (p_obj_eq.mp ho49) gw_1506 gw_1508 gw_35 ⟨Nat.le_of_ble_eq_true rfl, Nat.le_of_ble_eq_true rfl⟩ (Nat.le_of_ble_eq_true rfl) (fun rv49 w49 _ => ?_)
  refine ee_kI (fun v49 => ?_)
  exact ee_zret rfl dD_readSizes_52
def fD_readSizes_85 (l0 : Nat) (w : PW) : PX := (p_getI w l0 10 39).bind fun v87 => (p_obj w l0 10).bind fun _ => p_call (fD_fails l0 v87 w) <| p_kI fun v90 w90 => p_retZ v90 w90
set_option maxRecDepth 20000 in
set_option maxHeartbeats 2000000 in
theorem t_fD_readSizes_85 {Γ : PG} : ∀ (l0 : Nat) (w : PW), EE Γ MD_readSizes 85 [(0, .ref l0)] [] w (fD_readSizes_85 l0 w) := by
  intro l0 w
  unfold fD_readSizes_85
  refine ee_aload_n 0 dD_readSizes_85 rfl ?_
  refine ee_aload_n 0 dD_readSizes_86 rfl ?_
  refine ee_getI dD_readSizes_87 lfD_301 (fun v87 _ => ?_)
  refine ee_bind (fun _ ho90 => ?_)
  refine ee_callV (as := [.int v87]) (st := []) dD_readSizes_90 (t_fD_fails l0 v87 w) my_fD_fails.1 (Nat.le_of_ble_eq_true rfl) my_fD_fails.2 rfl cf_10.1 rfl (p_obj_eq.mp ho90) gw_1506 gw_1508 gw_35 ⟨Nat.le_of_ble_eq_true rfl, Nat.le_of_ble_eq_true rfl⟩ (Nat.le_of_ble_eq_true rfl) (fun rv90 w90 _ => ?_)
  refine ee_kI (fun v90 => ?_)
  exact ee_zret rfl dD_readSizes_93
def fD_readSizes_454 (l0 : Nat) (l1 : Int32) (l2 : Int32) (l3 : Int32) (l4 : Int32) (w : PW) : PX := if ¬ l4 = 0 then ((p_getR w l0 10 7).bind fun v469 => (p_obj w l0 10).bind fun _ => p_call (fD_four l0 (l2 + (2 : Int32)) w) <| p_kJ fun v477 w477 => (p_ast w477 v469 0 (5 : Int32) (Int64.toInt32 v477)).bind fun w481 => (p_getR w481 l0 10 7).bind fun v483 => (p_obj w481 l0 10).bind fun _ => p_call (fD_four l0 (l2 + (6 : Int32)) w481) <| p_kJ fun v493 w493 => (p_ast w493 v483 0 (6 : Int32) (Int64.toInt32 v493)).bind fun w497 => (p_getR w497 l0 10 7).bind fun v499 => (p_ast w497 v499 0 (7 : Int32) l3).bind fun w505 => (p_getR w505 l0 10 7).bind fun v507 => (p_obj w505 l0 10).bind fun _ => p_call (fD_four l0 (l2 + (18 : Int32)) w505) <| p_kJ fun v517 w517 => (p_ast w517 v507 0 (8 : Int32) (Int64.toInt32 v517)).bind fun w521 => (p_getR w521 l0 10 7).bind fun v523 => (p_obj w521 l0 10).bind fun _ => p_call (fD_four l0 (l2 + (22 : Int32)) w521) <| p_kJ fun v533 w533 => (p_ast w533 v523 0 (9 : Int32) (Int64.toInt32 v533)).bind fun w537 => (p_getI w537 l0 10 39).bind fun v540 => (p_put w537 l0 10 39 (.int (v540 + ((2 : Int32) + l1)))).bind fun w547 => p_retZ (1 : Int32) w547) else ((p_getI w l0 10 39).bind fun v461 => (p_obj w l0 10).bind fun _ => p_call (fD_fails l0 v461 w) <| p_kI fun v464 w464 => p_retZ v464 w464)
set_option maxRecDepth 20000 in
set_option maxHeartbeats 2000000 in
theorem t_fD_readSizes_454 {Γ : PG} : ∀ (l0 : Nat) (l1 : Int32) (l2 : Int32) (l3 : Int32) (l4 : Int32) (w : PW), EE Γ MD_readSizes 454 [(0, .ref l0), (1, .int l1), (2, .int l2), (3, .int l3), (4, .int l4)] [] w (fD_readSizes_454 l0 l1 l2 l3 l4 w) := by
  intro l0 l1 l2 l3 l4 w
  unfold fD_readSizes_454
  refine ee_iload 4 dD_readSizes_454 rfl ?_
  refine ee_if_ne (tgt := 468) dD_readSizes_456 (by decide) (fun h456 => ?_) (fun h456 => ?_)
  · refine ee_aload_n 0 dD_readSizes_468 rfl ?_
    refine ee_getR dD_readSizes_469 lfD_23 (fun v469 _ => ?_)
    refine ee_iconst (v := (5 : Int32)) dD_readSizes_472 (by decide) ?_
    refine ee_aload_n 0 dD_readSizes_473 rfl ?_
    refine ee_iload_n 2 dD_readSizes_474 rfl ?_
    refine ee_iconst (v := (2 : Int32)) dD_readSizes_475 (by decide) ?_
    refine ee_iadd dD_readSizes_476 ?_
    refine ee_bind (fun _ ho477 => ?_)
    refine ee_callV (as := [.int (l2 + (2 : Int32))]) (st := [.int (5 : Int32), .ref v469]) dD_readSizes_477 (t_fD_four l0 (l2 + (2 : Int32)) w) my_fD_four.1 (Nat.le_of_ble_eq_true rfl) my_fD_four.2 rfl cf_10.1 rfl (p_obj_eq.mp ho477) gw_1499 gw_1501 gw_34 ⟨Nat.le_of_ble_eq_true rfl, Nat.le_of_ble_eq_true rfl⟩ (Nat.le_of_ble_eq_true rfl) (fun rv477 w477 _ => ?_)
    refine ee_kJ (fun v477 => ?_)
    refine ee_l2i dD_readSizes_480 ?_
    refine ee_iast (t := 0) dD_readSizes_481 rfl (fun w481 _ => ?_)
    refine ee_aload_n 0 dD_readSizes_482 rfl ?_
    refine ee_getR dD_readSizes_483 lfD_23 (fun v483 _ => ?_)
    refine ee_bipush (v := (6 : Int32)) dD_readSizes_486 (by decide) ?_
    refine ee_aload_n 0 dD_readSizes_488 rfl ?_
    refine ee_iload_n 2 dD_readSizes_489 rfl ?_
    refine ee_bipush (v := (6 : Int32)) dD_readSizes_490 (by decide) ?_
    refine ee_iadd dD_readSizes_492 ?_
    refine ee_bind (fun _ ho493 => ?_)
    refine ee_callV (as := [.int (l2 + (6 : Int32))]) (st := [.int (6 : Int32), .ref v483]) dD_readSizes_493 (t_fD_four l0 (l2 + (6 : Int32)) w481) my_fD_four.1 (Nat.le_of_ble_eq_true rfl) my_fD_four.2 rfl cf_10.1 rfl (p_obj_eq.mp ho493) gw_1499 gw_1501 gw_34 ⟨Nat.le_of_ble_eq_true rfl, Nat.le_of_ble_eq_true rfl⟩ (Nat.le_of_ble_eq_true rfl) (fun rv493 w493 _ => ?_)
    refine ee_kJ (fun v493 => ?_)
    refine ee_l2i dD_readSizes_496 ?_
    refine ee_iast (t := 0) dD_readSizes_497 rfl (fun w497 _ => ?_)
    refine ee_aload_n 0 dD_readSizes_498 rfl ?_
    refine ee_getR dD_readSizes_499 lfD_23 (fun v499 _ => ?_)
    refine ee_bipush (v := (7 : Int32)) dD_readSizes_502 (by decide) ?_
    refine ee_iload_n 3 dD_readSizes_504 rfl ?_
    refine ee_iast (t := 0) dD_readSizes_505 rfl (fun w505 _ => ?_)
    refine ee_aload_n 0 dD_readSizes_506 rfl ?_
    refine ee_getR dD_readSizes_507 lfD_23 (fun v507 _ => ?_)
    refine ee_bipush (v := (8 : Int32)) dD_readSizes_510 (by decide) ?_
    refine ee_aload_n 0 dD_readSizes_512 rfl ?_
    refine ee_iload_n 2 dD_readSizes_513 rfl ?_
    refine ee_bipush (v := (18 : Int32)) dD_readSizes_514 (by decide) ?_
    refine ee_iadd dD_readSizes_516 ?_
    refine ee_bind (fun _ ho517 => ?_)
    refine ee_callV (as := [.int (l2 + (18 : Int32))]) (st := [.int (8 : Int32), .ref v507]) dD_readSizes_517 (t_fD_four l0 (l2 + (18 : Int32)) w505) my_fD_four.1 (Nat.le_of_ble_eq_true rfl) my_fD_four.2 rfl cf_10.1 rfl (p_obj_eq.mp ho517) gw_1499 gw_1501 gw_34 ⟨Nat.le_of_ble_eq_true rfl, Nat.le_of_ble_eq_true rfl⟩ (Nat.le_of_ble_eq_true rfl) (fun rv517 w517 _ => ?_)
    refine ee_kJ (fun v517 => ?_)
    refine ee_l2i dD_readSizes_520 ?_
    refine ee_iast (t := 0) dD_readSizes_521 rfl (fun w521 _ => ?_)
    refine ee_aload_n 0 dD_readSizes_522 rfl ?_
    refine ee_getR dD_readSizes_523 lfD_23 (fun v523 _ => ?_)
    refine ee_bipush (v := (9 : Int32)) dD_readSizes_526 (by decide) ?_
    refine ee_aload_n 0 dD_readSizes_528 rfl ?_
    refine ee_iload_n 2 dD_readSizes_529 rfl ?_
    refine ee_bipush (v := (22 : Int32)) dD_readSizes_530 (by decide) ?_
    refine ee_iadd dD_readSizes_532 ?_
    refine ee_bind (fun _ ho533 => ?_)
    refine ee_callV (as := [.int (l2 + (22 : Int32))]) (st := [.int (9 : Int32), .ref v523]) dD_readSizes_533 (t_fD_four l0 (l2 + (22 : Int32)) w521) my_fD_four.1 (Nat.le_of_ble_eq_true rfl) my_fD_four.2 rfl cf_10.1 rfl (p_obj_eq.mp ho533) gw_1499 gw_1501 gw_34 ⟨Nat.le_of_ble_eq_true rfl, Nat.le_of_ble_eq_true rfl⟩ (Nat.le_of_ble_eq_true rfl) (fun rv533 w533 _ => ?_)
    refine ee_kJ (fun v533 => ?_)
    refine ee_l2i dD_readSizes_536 ?_
    refine ee_iast (t := 0) dD_readSizes_537 rfl (fun w537 _ => ?_)
    refine ee_aload_n 0 dD_readSizes_538 rfl ?_
    refine ee_dup dD_readSizes_539 rfl ?_
    refine ee_getI dD_readSizes_540 lfD_301 (fun v540 _ => ?_)
    refine ee_iconst (v := (2 : Int32)) dD_readSizes_543 (by decide) ?_
    refine ee_iload_n 1 dD_readSizes_544 rfl ?_
    refine ee_iadd dD_readSizes_545 ?_
    refine ee_iadd dD_readSizes_546 ?_
    refine ee_put dD_readSizes_547 lpD_301 (ee_nI _) (fun w547 _ => ?_)
    refine ee_iconst (v := (1 : Int32)) dD_readSizes_550 (by decide) ?_
    exact ee_zret rfl dD_readSizes_551
  · refine ee_aload_n 0 dD_readSizes_459 rfl ?_
    refine ee_aload_n 0 dD_readSizes_460 rfl ?_
    refine ee_getI dD_readSizes_461 lfD_301 (fun v461 _ => ?_)
    refine ee_bind (fun _ ho464 => ?_)
    refine ee_callV (as := [.int v461]) (st := []) dD_readSizes_464 (t_fD_fails l0 v461 w) my_fD_fails.1 (Nat.le_of_ble_eq_true rfl) my_fD_fails.2 rfl cf_10.1 rfl (p_obj_eq.mp ho464) gw_1506 gw_1508 gw_35 ⟨Nat.le_of_ble_eq_true rfl, Nat.le_of_ble_eq_true rfl⟩ (Nat.le_of_ble_eq_true rfl) (fun rv464 w464 _ => ?_)
    refine ee_kI (fun v464 => ?_)
    exact ee_zret rfl dD_readSizes_467
def fD_readSizes_421 (k_350 : Nat → Int32 → Int32 → Int32 → Int32 → Int32 → PW → PX) (l0 : Nat) (l1 : Int32) (l2 : Int32) (l3 : Int32) (l5 : Int32) (s0 : Int32) (w : PW) : PX := (p_getR w l0 10 6).bind fun v424 => (p_getR w l0 10 23).bind fun v432 => (p_ald w v432 0 ((l2 + (36 : Int32)) + ((3 : Int32) * l5))).bind fun v444 => (p_ast w v424 0 ((4 : Int32) + l5) (v444 + (1 : Int32))).bind fun w447 => p_let (l5 + (1 : Int32)) fun (l5_448 : Int32) => k_350 l0 l1 l2 l3 s0 l5_448 w447
set_option maxRecDepth 20000 in
set_option maxHeartbeats 2000000 in
theorem t_fD_readSizes_421 {Γ : PG} {k_350 : Nat → Int32 → Int32 → Int32 → Int32 → Int32 → PW → PX} (hk_350 : ∀ (l0 : Nat) (l1 : Int32) (l2 : Int32) (l3 : Int32) (l4 : Int32) (l5 : Int32) (w : PW), EE Γ MD_readSizes 350 [(0, .ref l0), (1, .int l1), (2, .int l2), (3, .int l3), (4, .int l4), (5, .int l5)] [] w (k_350 l0 l1 l2 l3 l4 l5 w)) : ∀ (l0 : Nat) (l1 : Int32) (l2 : Int32) (l3 : Int32) (l5 : Int32) (s0 : Int32) (w : PW), EE Γ MD_readSizes 421 [(0, .ref l0), (1, .int l1), (2, .int l2), (3, .int l3), (5, .int l5)] [.int s0] w (fD_readSizes_421 k_350 l0 l1 l2 l3 l5 s0 w) := by
  intro l0 l1 l2 l3 l5 s0 w
  unfold fD_readSizes_421
  refine ee_istore (lv2 := [(4, .int s0), (0, .ref l0), (1, .int l1), (2, .int l2), (3, .int l3), (5, .int l5)]) dD_readSizes_421 (Nat.le_of_ble_eq_true rfl) rfl ?_
  refine ee_aload_n 1 dD_readSizes_423 rfl ?_
  refine ee_getR dD_readSizes_424 lfD_20 (fun v424 _ => ?_)
  refine ee_iconst (v := (4 : Int32)) dD_readSizes_427 (by decide) ?_
  refine ee_iload 5 dD_readSizes_428 rfl ?_
  refine ee_iadd dD_readSizes_430 ?_
  refine ee_aload_n 1 dD_readSizes_431 rfl ?_
  refine ee_getR dD_readSizes_432 lfD_60 (fun v432 _ => ?_)
  refine ee_iload_n 3 dD_readSizes_435 rfl ?_
  refine ee_bipush (v := (36 : Int32)) dD_readSizes_436 (by decide) ?_
  refine ee_iadd dD_readSizes_438 ?_
  refine ee_iconst (v := (3 : Int32)) dD_readSizes_439 (by decide) ?_
  refine ee_iload 5 dD_readSizes_440 rfl ?_
  refine ee_imul dD_readSizes_442 ?_
  refine ee_iadd dD_readSizes_443 ?_
  refine ee_iald (t := 0) dD_readSizes_444 rfl (fun v444 _ => ?_)
  refine ee_iconst (v := (1 : Int32)) dD_readSizes_445 (by decide) ?_
  refine ee_iadd dD_readSizes_446 ?_
  refine ee_iast (t := 0) dD_readSizes_447 rfl (fun w447 _ => ?_)
  refine ee_iinc 5 dD_readSizes_448 rfl (e := (1 : Int32)) (by decide) (Nat.le_of_ble_eq_true rfl) (fun l5_448 _ => ?_)
  refine ee_lv (lv2 := [(5, .int l5_448), (4, .int s0), (0, .ref l0), (1, .int l1), (2, .int l2), (3, .int l3)]) rfl ?_
  refine ee_goto (tgt := 350) dD_readSizes_451 (by decide) ?_
  refine ee_pick [2, 3, 4, 5, 1, 0] rfl ?_
  exact hk_350 _ _ _ _ _ _ w447
def fD_readSizes_350 : Nat → Nat → Int32 → Int32 → Int32 → Int32 → Int32 → PW → PX
  | 0, _, _, _, _, _, _, _ => none
  | n9 + 1, l0, l1, l2, l3, l4, l5, w => if l3 ≤ l5 then (fD_readSizes_454 l0 l1 l2 l3 l4 w) else (if l4 = 0 then (fD_readSizes_454 l0 l1 l2 l3 l4 w) else ((p_getR w l0 10 23).bind fun v362 => (p_ald w v362 0 ((l2 + (36 : Int32)) + ((3 : Int32) * l5))).bind fun v374 => if (16 : Int32) ≤ v374 then (fD_readSizes_421 (fD_readSizes_350 n9) l0 l1 l2 l3 l5 (0 : Int32) w) else ((p_getR w l0 10 23).bind fun v381 => (p_ald w v381 0 ((l2 + (37 : Int32)) + ((3 : Int32) * l5))).bind fun v393 => if ¬ v393 = (1 : Int32) then (fD_readSizes_421 (fD_readSizes_350 n9) l0 l1 l2 l3 l5 (0 : Int32) w) else ((p_getR w l0 10 23).bind fun v399 => (p_ald w v399 0 ((l2 + (38 : Int32)) + ((3 : Int32) * l5))).bind fun v411 => if ¬ v411 = (1 : Int32) then (fD_readSizes_421 (fD_readSizes_350 n9) l0 l1 l2 l3 l5 (0 : Int32) w) else (fD_readSizes_421 (fD_readSizes_350 n9) l0 l1 l2 l3 l5 (1 : Int32) w)))))
set_option maxRecDepth 20000 in
set_option maxHeartbeats 2000000 in
theorem t_fD_readSizes_350 {Γ : PG} : ∀ (n9 : Nat) (l0 : Nat) (l1 : Int32) (l2 : Int32) (l3 : Int32) (l4 : Int32) (l5 : Int32) (w : PW), EE Γ MD_readSizes 350 [(0, .ref l0), (1, .int l1), (2, .int l2), (3, .int l3), (4, .int l4), (5, .int l5)] [] w (fD_readSizes_350 n9 l0 l1 l2 l3 l4 l5 w) := by
  intro n9
  induction n9 with
  | zero => intro l0 l1 l2 l3 l4 l5 w; exact ee_none
  | succ n9 ih =>
    intro l0 l1 l2 l3 l4 l5 w
    unfold fD_readSizes_350
    refine ee_iload 5 dD_readSizes_350 rfl ?_
    refine ee_iload_n 3 dD_readSizes_352 rfl ?_
    refine ee_icmp_ge (tgt := 454) dD_readSizes_353 (by decide) (fun h353 => ?_) (fun h353 => ?_)
    · refine ee_pick [0, 1, 2, 3, 4] rfl ?_
      exact t_fD_readSizes_454 _ _ _ _ _ w
    · refine ee_iload 4 dD_readSizes_356 rfl ?_
      refine ee_if_eq (tgt := 454) dD_readSizes_358 (by decide) (fun h358 => ?_) (fun h358 => ?_)
      · refine ee_pick [0, 1, 2, 3, 4] rfl ?_
        exact t_fD_readSizes_454 _ _ _ _ _ w
      · refine ee_aload_n 0 dD_readSizes_361 rfl ?_
        refine ee_getR dD_readSizes_362 lfD_60 (fun v362 _ => ?_)
        refine ee_iload_n 2 dD_readSizes_365 rfl ?_
        refine ee_bipush (v := (36 : Int32)) dD_readSizes_366 (by decide) ?_
        refine ee_iadd dD_readSizes_368 ?_
        refine ee_iconst (v := (3 : Int32)) dD_readSizes_369 (by decide) ?_
        refine ee_iload 5 dD_readSizes_370 rfl ?_
        refine ee_imul dD_readSizes_372 ?_
        refine ee_iadd dD_readSizes_373 ?_
        refine ee_iald (t := 0) dD_readSizes_374 rfl (fun v374 _ => ?_)
        refine ee_bipush (v := (16 : Int32)) dD_readSizes_375 (by decide) ?_
        refine ee_icmp_ge (tgt := 420) dD_readSizes_377 (by decide) (fun h377 => ?_) (fun h377 => ?_)
        · refine ee_iconst (v := (0 : Int32)) dD_readSizes_420 (by decide) ?_
          refine ee_pick [0, 1, 2, 3, 5] rfl ?_
          exact t_fD_readSizes_421 ih _ _ _ _ _ _ w
        · refine ee_aload_n 0 dD_readSizes_380 rfl ?_
          refine ee_getR dD_readSizes_381 lfD_60 (fun v381 _ => ?_)
          refine ee_iload_n 2 dD_readSizes_384 rfl ?_
          refine ee_bipush (v := (37 : Int32)) dD_readSizes_385 (by decide) ?_
          refine ee_iadd dD_readSizes_387 ?_
          refine ee_iconst (v := (3 : Int32)) dD_readSizes_388 (by decide) ?_
          refine ee_iload 5 dD_readSizes_389 rfl ?_
          refine ee_imul dD_readSizes_391 ?_
          refine ee_iadd dD_readSizes_392 ?_
          refine ee_iald (t := 0) dD_readSizes_393 rfl (fun v393 _ => ?_)
          refine ee_iconst (v := (1 : Int32)) dD_readSizes_394 (by decide) ?_
          refine ee_icmp_ne (tgt := 420) dD_readSizes_395 (by decide) (fun h395 => ?_) (fun h395 => ?_)
          · refine ee_iconst (v := (0 : Int32)) dD_readSizes_420 (by decide) ?_
            refine ee_pick [0, 1, 2, 3, 5] rfl ?_
            exact t_fD_readSizes_421 ih _ _ _ _ _ _ w
          · refine ee_aload_n 0 dD_readSizes_398 rfl ?_
            refine ee_getR dD_readSizes_399 lfD_60 (fun v399 _ => ?_)
            refine ee_iload_n 2 dD_readSizes_402 rfl ?_
            refine ee_bipush (v := (38 : Int32)) dD_readSizes_403 (by decide) ?_
            refine ee_iadd dD_readSizes_405 ?_
            refine ee_iconst (v := (3 : Int32)) dD_readSizes_406 (by decide) ?_
            refine ee_iload 5 dD_readSizes_407 rfl ?_
            refine ee_imul dD_readSizes_409 ?_
            refine ee_iadd dD_readSizes_410 ?_
            refine ee_iald (t := 0) dD_readSizes_411 rfl (fun v411 _ => ?_)
            refine ee_iconst (v := (1 : Int32)) dD_readSizes_412 (by decide) ?_
            refine ee_icmp_ne (tgt := 420) dD_readSizes_413 (by decide) (fun h413 => ?_) (fun h413 => ?_)
            · refine ee_iconst (v := (0 : Int32)) dD_readSizes_420 (by decide) ?_
              refine ee_pick [0, 1, 2, 3, 5] rfl ?_
              exact t_fD_readSizes_421 ih _ _ _ _ _ _ w
            · refine ee_iconst (v := (1 : Int32)) dD_readSizes_416 (by decide) ?_
              refine ee_goto (tgt := 421) dD_readSizes_417 (by decide) ?_
              refine ee_pick [0, 1, 2, 3, 5] rfl ?_
              exact t_fD_readSizes_421 ih _ _ _ _ _ _ w
def fD_readSizes_292 (l0 : Nat) (l1 : Int32) (l2 : Int32) (l3 : Int32) (s0 : Int32) (w : PW) : PX := if s0 = 0 then (fD_readSizes_350 FUEL l0 l1 l2 l3 (0 : Int32) (0 : Int32) w) else ((p_obj w l0 10).bind fun _ => p_call (fD_four l0 (l2 + (2 : Int32)) w) <| p_kJ fun v303 w303 => (p_obj w303 l0 10).bind fun _ => p_call (fD_four l0 (l2 + (6 : Int32)) w303) <| p_kJ fun v311 w311 => (p_obj w311 l0 10).bind fun _ => p_call (fD_four l0 (l2 + (18 : Int32)) w311) <| p_kJ fun v319 w319 => (p_obj w319 l0 10).bind fun _ => p_call (fD_four l0 (l2 + (22 : Int32)) w319) <| p_kJ fun v327 w327 => p_call (fD_tilesOf v303 v311 v319 v327 w327) <| p_kJ fun v330 w330 => if 0 < (lg_cmp v330 (24 : Int64)) then (fD_readSizes_350 FUEL l0 l1 l2 l3 (0 : Int32) (0 : Int32) w330) else (fD_readSizes_350 FUEL l0 l1 l2 l3 (1 : Int32) (0 : Int32) w330))
set_option maxRecDepth 20000 in
set_option maxHeartbeats 2000000 in
theorem t_fD_readSizes_292 {Γ : PG} : ∀ (l0 : Nat) (l1 : Int32) (l2 : Int32) (l3 : Int32) (s0 : Int32) (w : PW), EE Γ MD_readSizes 292 [(0, .ref l0), (1, .int l1), (2, .int l2), (3, .int l3)] [.int s0] w (fD_readSizes_292 l0 l1 l2 l3 s0 w) := by
  intro l0 l1 l2 l3 s0 w
  unfold fD_readSizes_292
  refine ee_istore (lv2 := [(4, .int s0), (0, .ref l0), (1, .int l1), (2, .int l2), (3, .int l3)]) dD_readSizes_292 (Nat.le_of_ble_eq_true rfl) rfl ?_
  refine ee_iload 0 dD_readSizes_294 rfl ?_
  refine ee_if_eq (tgt := 344) dD_readSizes_296 (by decide) (fun h296 => ?_) (fun h296 => ?_)
  · refine ee_iconst (v := (0 : Int32)) dD_readSizes_344 (by decide) ?_
    refine ee_istore (lv2 := [(4, .int (0 : Int32)), (0, .ref l0), (1, .int l1), (2, .int l2), (3, .int l3)]) dD_readSizes_345 (Nat.le_of_ble_eq_true rfl) rfl ?_
    refine ee_iconst (v := (0 : Int32)) dD_readSizes_347 (by decide) ?_
    refine ee_istore (lv2 := [(5, .int (0 : Int32)), (4, .int (0 : Int32)), (0, .ref l0), (1, .int l1), (2, .int l2), (3, .int l3)]) dD_readSizes_348 (Nat.le_of_ble_eq_true rfl) rfl ?_
    refine ee_pick [2, 3, 4, 5, 1, 0] rfl ?_
    exact t_fD_readSizes_350 FUEL _ _ _ _ _ _ w
  · refine ee_aload_n 1 dD_readSizes_299 rfl ?_
    refine ee_iload_n 3 dD_readSizes_300 rfl ?_
    refine ee_iconst (v := (2 : Int32)) dD_readSizes_301 (by decide) ?_
    refine ee_iadd dD_readSizes_302 ?_
    refine ee_bind (fun _ ho303 => ?_)
    refine ee_callV (as := [.int (l2 + (2 : Int32))]) (st := []) dD_readSizes_303 (t_fD_four l0 (l2 + (2 : Int32)) w) my_fD_four.1 (Nat.le_of_ble_eq_true rfl) my_fD_four.2 rfl cf_10.1 rfl (p_obj_eq.mp ho303) gw_1499 gw_1501 gw_34 ⟨Nat.le_of_ble_eq_true rfl, Nat.le_of_ble_eq_true rfl⟩ (Nat.le_of_ble_eq_true rfl) (fun rv303 w303 _ => ?_)
    refine ee_kJ (fun v303 => ?_)
    refine ee_aload_n 1 dD_readSizes_306 rfl ?_
    refine ee_iload_n 3 dD_readSizes_307 rfl ?_
    refine ee_bipush (v := (6 : Int32)) dD_readSizes_308 (by decide) ?_
    refine ee_iadd dD_readSizes_310 ?_
    refine ee_bind (fun _ ho311 => ?_)
    refine ee_callV (as := [.int (l2 + (6 : Int32))]) (st := [.long v303]) dD_readSizes_311 (t_fD_four l0 (l2 + (6 : Int32)) w303) my_fD_four.1 (Nat.le_of_ble_eq_true rfl) my_fD_four.2 rfl cf_10.1 rfl (p_obj_eq.mp ho311) gw_1499 gw_1501 gw_34 ⟨Nat.le_of_ble_eq_true rfl, Nat.le_of_ble_eq_true rfl⟩ (Nat.le_of_ble_eq_true rfl) (fun rv311 w311 _ => ?_)
    refine ee_kJ (fun v311 => ?_)
    refine ee_aload_n 1 dD_readSizes_314 rfl ?_
    refine ee_iload_n 3 dD_readSizes_315 rfl ?_
    refine ee_bipush (v := (18 : Int32)) dD_readSizes_316 (by decide) ?_
    refine ee_iadd dD_readSizes_318 ?_
    refine ee_bind (fun _ ho319 => ?_)
    refine ee_callV (as := [.int (l2 + (18 : Int32))]) (st := [.long v311, .long v303]) dD_readSizes_319 (t_fD_four l0 (l2 + (18 : Int32)) w311) my_fD_four.1 (Nat.le_of_ble_eq_true rfl) my_fD_four.2 rfl cf_10.1 rfl (p_obj_eq.mp ho319) gw_1499 gw_1501 gw_34 ⟨Nat.le_of_ble_eq_true rfl, Nat.le_of_ble_eq_true rfl⟩ (Nat.le_of_ble_eq_true rfl) (fun rv319 w319 _ => ?_)
    refine ee_kJ (fun v319 => ?_)
    refine ee_aload_n 1 dD_readSizes_322 rfl ?_
    refine ee_iload_n 3 dD_readSizes_323 rfl ?_
    refine ee_bipush (v := (22 : Int32)) dD_readSizes_324 (by decide) ?_
    refine ee_iadd dD_readSizes_326 ?_
    refine ee_bind (fun _ ho327 => ?_)
    refine ee_callV (as := [.int (l2 + (22 : Int32))]) (st := [.long v319, .long v311, .long v303]) dD_readSizes_327 (t_fD_four l0 (l2 + (22 : Int32)) w319) my_fD_four.1 (Nat.le_of_ble_eq_true rfl) my_fD_four.2 rfl cf_10.1 rfl (p_obj_eq.mp ho327) gw_1499 gw_1501 gw_34 ⟨Nat.le_of_ble_eq_true rfl, Nat.le_of_ble_eq_true rfl⟩ (Nat.le_of_ble_eq_true rfl) (fun rv327 w327 _ => ?_)
    refine ee_kJ (fun v327 => ?_)
    refine ee_callS (as := [.long v303, .long v311, .long v319, .long v327]) (st := []) dD_readSizes_330 (t_fD_tilesOf v303 v311 v319 v327 w327) my_fD_tilesOf.1 (Nat.le_of_ble_eq_true rfl) my_fD_tilesOf.2 rfl gw_1328 gw_1329 ⟨Nat.le_of_ble_eq_true rfl, Nat.le_of_ble_eq_true rfl⟩ (Nat.le_of_ble_eq_true rfl) (fun rv330 w330 _ => ?_)
    refine ee_kJ (fun v330 => ?_)
    refine ee_ldc2 (v := (24 : Int64)) dD_readSizes_333 gw_1351 ?_
    refine ee_lcmp dD_readSizes_336 ?_
    refine ee_if_gt (tgt := 344) dD_readSizes_337 (by decide) (fun h337 => ?_) (fun h337 => ?_)
    · refine ee_iconst (v := (0 : Int32)) dD_readSizes_344 (by decide) ?_
      refine ee_istore (lv2 := [(4, .int (0 : Int32)), (0, .ref l0), (1, .int l1), (2, .int l2), (3, .int l3)]) dD_readSizes_345 (Nat.le_of_ble_eq_true rfl) rfl ?_
      refine ee_iconst (v := (0 : Int32)) dD_readSizes_347 (by decide) ?_
      refine ee_istore (lv2 := [(5, .int (0 : Int32)), (4, .int (0 : Int32)), (0, .ref l0), (1, .int l1), (2, .int l2), (3, .int l3)]) dD_readSizes_348 (Nat.le_of_ble_eq_true rfl) rfl ?_
      refine ee_pick [2, 3, 4, 5, 1, 0] rfl ?_
      exact t_fD_readSizes_350 FUEL _ _ _ _ _ _ w330
    · refine ee_iconst (v := (1 : Int32)) dD_readSizes_340 (by decide) ?_
      refine ee_goto (tgt := 345) dD_readSizes_341 (by decide) ?_
      refine ee_istore (lv2 := [(4, .int (1 : Int32)), (0, .ref l0), (1, .int l1), (2, .int l2), (3, .int l3)]) dD_readSizes_345 (Nat.le_of_ble_eq_true rfl) rfl ?_
      refine ee_iconst (v := (0 : Int32)) dD_readSizes_347 (by decide) ?_
      refine ee_istore (lv2 := [(5, .int (0 : Int32)), (4, .int (1 : Int32)), (0, .ref l0), (1, .int l1), (2, .int l2), (3, .int l3)]) dD_readSizes_348 (Nat.le_of_ble_eq_true rfl) rfl ?_
      refine ee_pick [2, 3, 4, 5, 1, 0] rfl ?_
      exact t_fD_readSizes_350 FUEL _ _ _ _ _ _ w330
def fD_readSizes_218 (l0 : Nat) (l1 : Int32) (l2 : Int32) (l3 : Int32) (s0 : Int32) (w : PW) : PX := if s0 = 0 then (fD_readSizes_292 l0 l1 l2 l3 (0 : Int32) w) else ((p_obj w l0 10).bind fun _ => p_call (fD_four l0 (l2 + (18 : Int32)) w) <| p_kJ fun v230 w230 => p_call (fD_in v230 (1 : Int64) (65536 : Int64) w230) <| p_kI fun v237 w237 => if v237 = 0 then (fD_readSizes_292 l0 l1 l2 l3 (0 : Int32) w237) else ((p_obj w237 l0 10).bind fun _ => p_call (fD_four l0 (l2 + (22 : Int32)) w237) <| p_kJ fun v248 w248 => p_call (fD_in v248 (1 : Int64) (65536 : Int64) w248) <| p_kI fun v255 w255 => if v255 = 0 then (fD_readSizes_292 l0 l1 l2 l3 (0 : Int32) w255) else ((p_obj w255 l0 10).bind fun _ => p_call (fD_four l0 (l2 + (26 : Int32)) w255) <| p_kJ fun v266 w266 => if ¬ (lg_cmp v266 (0 : Int64)) = 0 then (fD_readSizes_292 l0 l1 l2 l3 (0 : Int32) w266) else ((p_obj w266 l0 10).bind fun _ => p_call (fD_four l0 (l2 + (30 : Int32)) w266) <| p_kJ fun v279 w279 => if ¬ (lg_cmp v279 (0 : Int64)) = 0 then (fD_readSizes_292 l0 l1 l2 l3 (0 : Int32) w279) else (fD_readSizes_292 l0 l1 l2 l3 (1 : Int32) w279)))))
set_option maxRecDepth 20000 in
set_option maxHeartbeats 2000000 in
theorem t_fD_readSizes_218 {Γ : PG} : ∀ (l0 : Nat) (l1 : Int32) (l2 : Int32) (l3 : Int32) (s0 : Int32) (w : PW), EE Γ MD_readSizes 218 [(0, .ref l0), (1, .int l1), (2, .int l2), (3, .int l3)] [.int s0] w (fD_readSizes_218 l0 l1 l2 l3 s0 w) := by
  intro l0 l1 l2 l3 s0 w
  unfold fD_readSizes_218
  refine ee_istore (lv2 := [(4, .int s0), (0, .ref l0), (1, .int l1), (2, .int l2), (3, .int l3)]) dD_readSizes_218 (Nat.le_of_ble_eq_true rfl) rfl ?_
  refine ee_iload 0 dD_readSizes_220 rfl ?_
  refine ee_if_eq (tgt := 291) dD_readSizes_222 (by decide) (fun h222 => ?_) (fun h222 => ?_)
  · refine ee_iconst (v := (0 : Int32)) dD_readSizes_291 (by decide) ?_
    refine ee_pick [1, 2, 3, 4] rfl ?_
    exact t_fD_readSizes_292 _ _ _ _ _ w
  · refine ee_aload_n 1 dD_readSizes_225 rfl ?_
    refine ee_iload_n 3 dD_readSizes_226 rfl ?_
    refine ee_bipush (v := (18 : Int32)) dD_readSizes_227 (by decide) ?_
    refine ee_iadd dD_readSizes_229 ?_
    refine ee_bind (fun _ ho230 => ?_)
    refine ee_callV (as := [.int (l2 + (18 : Int32))]) (st := []) dD_readSizes_230 (t_fD_four l0 (l2 + (18 : Int32)) w) my_fD_four.1 (Nat.le_of_ble_eq_true rfl) my_fD_four.2 rfl cf_10.1 rfl (p_obj_eq.mp ho230) gw_1499 gw_1501 gw_34 ⟨Nat.le_of_ble_eq_true rfl, Nat.le_of_ble_eq_true rfl⟩ (Nat.le_of_ble_eq_true rfl) (fun rv230 w230 _ => ?_)
    refine ee_kJ (fun v230 => ?_)
    refine ee_lconst (v := (1 : Int64)) dD_readSizes_233 (by decide) ?_
    refine ee_ldc2 (v := (65536 : Int64)) dD_readSizes_234 gw_1544 ?_
    refine ee_callS (as := [.long v230, .long (1 : Int64), .long (65536 : Int64)]) (st := []) dD_readSizes_237 (t_fD_in v230 (1 : Int64) (65536 : Int64) w230) my_fD_in.1 (Nat.le_of_ble_eq_true rfl) my_fD_in.2 rfl gw_1320 gw_1321 ⟨Nat.le_of_ble_eq_true rfl, Nat.le_of_ble_eq_true rfl⟩ (Nat.le_of_ble_eq_true rfl) (fun rv237 w237 _ => ?_)
    refine ee_kI (fun v237 => ?_)
    refine ee_if_eq (tgt := 291) dD_readSizes_240 (by decide) (fun h240 => ?_) (fun h240 => ?_)
    · refine ee_iconst (v := (0 : Int32)) dD_readSizes_291 (by decide) ?_
      refine ee_pick [1, 2, 3, 4] rfl ?_
      exact t_fD_readSizes_292 _ _ _ _ _ w237
    · refine ee_aload_n 1 dD_readSizes_243 rfl ?_
      refine ee_iload_n 3 dD_readSizes_244 rfl ?_
      refine ee_bipush (v := (22 : Int32)) dD_readSizes_245 (by decide) ?_
      refine ee_iadd dD_readSizes_247 ?_
      refine ee_bind (fun _ ho248 => ?_)
      refine ee_callV (as := [.int (l2 + (22 : Int32))]) (st := []) dD_readSizes_248 (t_fD_four l0 (l2 + (22 : Int32)) w237) my_fD_four.1 (Nat.le_of_ble_eq_true rfl) my_fD_four.2 rfl cf_10.1 rfl (p_obj_eq.mp ho248) gw_1499 gw_1501 gw_34 ⟨Nat.le_of_ble_eq_true rfl, Nat.le_of_ble_eq_true rfl⟩ (Nat.le_of_ble_eq_true rfl) (fun rv248 w248 _ => ?_)
      refine ee_kJ (fun v248 => ?_)
      refine ee_lconst (v := (1 : Int64)) dD_readSizes_251 (by decide) ?_
      refine ee_ldc2 (v := (65536 : Int64)) dD_readSizes_252 gw_1544 ?_
      refine ee_callS (as := [.long v248, .long (1 : Int64), .long (65536 : Int64)]) (st := []) dD_readSizes_255 (t_fD_in v248 (1 : Int64) (65536 : Int64) w248) my_fD_in.1 (Nat.le_of_ble_eq_true rfl) my_fD_in.2 rfl gw_1320 gw_1321 ⟨Nat.le_of_ble_eq_true rfl, Nat.le_of_ble_eq_true rfl⟩ (Nat.le_of_ble_eq_true rfl) (fun rv255 w255 _ => ?_)
      refine ee_kI (fun v255 => ?_)
      refine ee_if_eq (tgt := 291) dD_readSizes_258 (by decide) (fun h258 => ?_) (fun h258 => ?_)
      · refine ee_iconst (v := (0 : Int32)) dD_readSizes_291 (by decide) ?_
        refine ee_pick [1, 2, 3, 4] rfl ?_
        exact t_fD_readSizes_292 _ _ _ _ _ w255
      · refine ee_aload_n 1 dD_readSizes_261 rfl ?_
        refine ee_iload_n 3 dD_readSizes_262 rfl ?_
        refine ee_bipush (v := (26 : Int32)) dD_readSizes_263 (by decide) ?_
        refine ee_iadd dD_readSizes_265 ?_
        refine ee_bind (fun _ ho266 => ?_)
        refine ee_callV (as := [.int (l2 + (26 : Int32))]) (st := []) dD_readSizes_266 (t_fD_four l0 (l2 + (26 : Int32)) w255) my_fD_four.1 (Nat.le_of_ble_eq_true rfl) my_fD_four.2 rfl cf_10.1 rfl (p_obj_eq.mp ho266) gw_1499 gw_1501 gw_34 ⟨Nat.le_of_ble_eq_true rfl, Nat.le_of_ble_eq_true rfl⟩ (Nat.le_of_ble_eq_true rfl) (fun rv266 w266 _ => ?_)
        refine ee_kJ (fun v266 => ?_)
        refine ee_lconst (v := (0 : Int64)) dD_readSizes_269 (by decide) ?_
        refine ee_lcmp dD_readSizes_270 ?_
        refine ee_if_ne (tgt := 291) dD_readSizes_271 (by decide) (fun h271 => ?_) (fun h271 => ?_)
        · refine ee_iconst (v := (0 : Int32)) dD_readSizes_291 (by decide) ?_
          refine ee_pick [1, 2, 3, 4] rfl ?_
          exact t_fD_readSizes_292 _ _ _ _ _ w266
        · refine ee_aload_n 1 dD_readSizes_274 rfl ?_
          refine ee_iload_n 3 dD_readSizes_275 rfl ?_
          refine ee_bipush (v := (30 : Int32)) dD_readSizes_276 (by decide) ?_
          refine ee_iadd dD_readSizes_278 ?_
          refine ee_bind (fun _ ho279 => ?_)
          refine ee_callV (as := [.int (l2 + (30 : Int32))]) (st := []) dD_readSizes_279 (t_fD_four l0 (l2 + (30 : Int32)) w266) my_fD_four.1 (Nat.le_of_ble_eq_true rfl) my_fD_four.2 rfl cf_10.1 rfl (p_obj_eq.mp ho279) gw_1499 gw_1501 gw_34 ⟨Nat.le_of_ble_eq_true rfl, Nat.le_of_ble_eq_true rfl⟩ (Nat.le_of_ble_eq_true rfl) (fun rv279 w279 _ => ?_)
          refine ee_kJ (fun v279 => ?_)
          refine ee_lconst (v := (0 : Int64)) dD_readSizes_282 (by decide) ?_
          refine ee_lcmp dD_readSizes_283 ?_
          refine ee_if_ne (tgt := 291) dD_readSizes_284 (by decide) (fun h284 => ?_) (fun h284 => ?_)
          · refine ee_iconst (v := (0 : Int32)) dD_readSizes_291 (by decide) ?_
            refine ee_pick [1, 2, 3, 4] rfl ?_
            exact t_fD_readSizes_292 _ _ _ _ _ w279
          · refine ee_iconst (v := (1 : Int32)) dD_readSizes_287 (by decide) ?_
            refine ee_goto (tgt := 292) dD_readSizes_288 (by decide) ?_
            refine ee_pick [1, 2, 3, 4] rfl ?_
            exact t_fD_readSizes_292 _ _ _ _ _ w279
def fD_readSizes_145 (l0 : Nat) (l1 : Int32) (l2 : Int32) (l3 : Int32) (s0 : Int32) (w : PW) : PX := if s0 = 0 then (fD_readSizes_218 l0 l1 l2 l3 (0 : Int32) w) else ((p_obj w l0 10).bind fun _ => p_call (fD_four l0 (l2 + (2 : Int32)) w) <| p_kJ fun v156 w156 => p_call (fD_in v156 (1 : Int64) (2000 : Int64) w156) <| p_kI fun v163 w163 => if v163 = 0 then (fD_readSizes_218 l0 l1 l2 l3 (0 : Int32) w163) else ((p_obj w163 l0 10).bind fun _ => p_call (fD_four l0 (l2 + (6 : Int32)) w163) <| p_kJ fun v174 w174 => p_call (fD_in v174 (1 : Int64) (2000 : Int64) w174) <| p_kI fun v181 w181 => if v181 = 0 then (fD_readSizes_218 l0 l1 l2 l3 (0 : Int32) w181) else ((p_obj w181 l0 10).bind fun _ => p_call (fD_four l0 (l2 + (10 : Int32)) w181) <| p_kJ fun v192 w192 => if ¬ (lg_cmp v192 (0 : Int64)) = 0 then (fD_readSizes_218 l0 l1 l2 l3 (0 : Int32) w192) else ((p_obj w192 l0 10).bind fun _ => p_call (fD_four l0 (l2 + (14 : Int32)) w192) <| p_kJ fun v205 w205 => if ¬ (lg_cmp v205 (0 : Int64)) = 0 then (fD_readSizes_218 l0 l1 l2 l3 (0 : Int32) w205) else (fD_readSizes_218 l0 l1 l2 l3 (1 : Int32) w205)))))
set_option maxRecDepth 20000 in
set_option maxHeartbeats 2000000 in
theorem t_fD_readSizes_145 {Γ : PG} : ∀ (l0 : Nat) (l1 : Int32) (l2 : Int32) (l3 : Int32) (s0 : Int32) (w : PW), EE Γ MD_readSizes 145 [(0, .ref l0), (1, .int l1), (2, .int l2), (3, .int l3)] [.int s0] w (fD_readSizes_145 l0 l1 l2 l3 s0 w) := by
  intro l0 l1 l2 l3 s0 w
  unfold fD_readSizes_145
  refine ee_istore (lv2 := [(4, .int s0), (0, .ref l0), (1, .int l1), (2, .int l2), (3, .int l3)]) dD_readSizes_145 (Nat.le_of_ble_eq_true rfl) rfl ?_
  refine ee_iload 0 dD_readSizes_147 rfl ?_
  refine ee_if_eq (tgt := 217) dD_readSizes_149 (by decide) (fun h149 => ?_) (fun h149 => ?_)
  · refine ee_iconst (v := (0 : Int32)) dD_readSizes_217 (by decide) ?_
    refine ee_pick [1, 2, 3, 4] rfl ?_
    exact t_fD_readSizes_218 _ _ _ _ _ w
  · refine ee_aload_n 1 dD_readSizes_152 rfl ?_
    refine ee_iload_n 3 dD_readSizes_153 rfl ?_
    refine ee_iconst (v := (2 : Int32)) dD_readSizes_154 (by decide) ?_
    refine ee_iadd dD_readSizes_155 ?_
    refine ee_bind (fun _ ho156 => ?_)
    refine ee_callV (as := [.int (l2 + (2 : Int32))]) (st := []) dD_readSizes_156 (t_fD_four l0 (l2 + (2 : Int32)) w) my_fD_four.1 (Nat.le_of_ble_eq_true rfl) my_fD_four.2 rfl cf_10.1 rfl (p_obj_eq.mp ho156) gw_1499 gw_1501 gw_34 ⟨Nat.le_of_ble_eq_true rfl, Nat.le_of_ble_eq_true rfl⟩ (Nat.le_of_ble_eq_true rfl) (fun rv156 w156 _ => ?_)
    refine ee_kJ (fun v156 => ?_)
    refine ee_lconst (v := (1 : Int64)) dD_readSizes_159 (by decide) ?_
    refine ee_ldc2 (v := (2000 : Int64)) dD_readSizes_160 gw_1338 ?_
    refine ee_callS (as := [.long v156, .long (1 : Int64), .long (2000 : Int64)]) (st := []) dD_readSizes_163 (t_fD_in v156 (1 : Int64) (2000 : Int64) w156) my_fD_in.1 (Nat.le_of_ble_eq_true rfl) my_fD_in.2 rfl gw_1320 gw_1321 ⟨Nat.le_of_ble_eq_true rfl, Nat.le_of_ble_eq_true rfl⟩ (Nat.le_of_ble_eq_true rfl) (fun rv163 w163 _ => ?_)
    refine ee_kI (fun v163 => ?_)
    refine ee_if_eq (tgt := 217) dD_readSizes_166 (by decide) (fun h166 => ?_) (fun h166 => ?_)
    · refine ee_iconst (v := (0 : Int32)) dD_readSizes_217 (by decide) ?_
      refine ee_pick [1, 2, 3, 4] rfl ?_
      exact t_fD_readSizes_218 _ _ _ _ _ w163
    · refine ee_aload_n 1 dD_readSizes_169 rfl ?_
      refine ee_iload_n 3 dD_readSizes_170 rfl ?_
      refine ee_bipush (v := (6 : Int32)) dD_readSizes_171 (by decide) ?_
      refine ee_iadd dD_readSizes_173 ?_
      refine ee_bind (fun _ ho174 => ?_)
      refine ee_callV (as := [.int (l2 + (6 : Int32))]) (st := []) dD_readSizes_174 (t_fD_four l0 (l2 + (6 : Int32)) w163) my_fD_four.1 (Nat.le_of_ble_eq_true rfl) my_fD_four.2 rfl cf_10.1 rfl (p_obj_eq.mp ho174) gw_1499 gw_1501 gw_34 ⟨Nat.le_of_ble_eq_true rfl, Nat.le_of_ble_eq_true rfl⟩ (Nat.le_of_ble_eq_true rfl) (fun rv174 w174 _ => ?_)
      refine ee_kJ (fun v174 => ?_)
      refine ee_lconst (v := (1 : Int64)) dD_readSizes_177 (by decide) ?_
      refine ee_ldc2 (v := (2000 : Int64)) dD_readSizes_178 gw_1338 ?_
      refine ee_callS (as := [.long v174, .long (1 : Int64), .long (2000 : Int64)]) (st := []) dD_readSizes_181 (t_fD_in v174 (1 : Int64) (2000 : Int64) w174) my_fD_in.1 (Nat.le_of_ble_eq_true rfl) my_fD_in.2 rfl gw_1320 gw_1321 ⟨Nat.le_of_ble_eq_true rfl, Nat.le_of_ble_eq_true rfl⟩ (Nat.le_of_ble_eq_true rfl) (fun rv181 w181 _ => ?_)
      refine ee_kI (fun v181 => ?_)
      refine ee_if_eq (tgt := 217) dD_readSizes_184 (by decide) (fun h184 => ?_) (fun h184 => ?_)
      · refine ee_iconst (v := (0 : Int32)) dD_readSizes_217 (by decide) ?_
        refine ee_pick [1, 2, 3, 4] rfl ?_
        exact t_fD_readSizes_218 _ _ _ _ _ w181
      · refine ee_aload_n 1 dD_readSizes_187 rfl ?_
        refine ee_iload_n 3 dD_readSizes_188 rfl ?_
        refine ee_bipush (v := (10 : Int32)) dD_readSizes_189 (by decide) ?_
        refine ee_iadd dD_readSizes_191 ?_
        refine ee_bind (fun _ ho192 => ?_)
        refine ee_callV (as := [.int (l2 + (10 : Int32))]) (st := []) dD_readSizes_192 (t_fD_four l0 (l2 + (10 : Int32)) w181) my_fD_four.1 (Nat.le_of_ble_eq_true rfl) my_fD_four.2 rfl cf_10.1 rfl (p_obj_eq.mp ho192) gw_1499 gw_1501 gw_34 ⟨Nat.le_of_ble_eq_true rfl, Nat.le_of_ble_eq_true rfl⟩ (Nat.le_of_ble_eq_true rfl) (fun rv192 w192 _ => ?_)
        refine ee_kJ (fun v192 => ?_)
        refine ee_lconst (v := (0 : Int64)) dD_readSizes_195 (by decide) ?_
        refine ee_lcmp dD_readSizes_196 ?_
        refine ee_if_ne (tgt := 217) dD_readSizes_197 (by decide) (fun h197 => ?_) (fun h197 => ?_)
        · refine ee_iconst (v := (0 : Int32)) dD_readSizes_217 (by decide) ?_
          refine ee_pick [1, 2, 3, 4] rfl ?_
          exact t_fD_readSizes_218 _ _ _ _ _ w192
        · refine ee_aload_n 1 dD_readSizes_200 rfl ?_
          refine ee_iload_n 3 dD_readSizes_201 rfl ?_
          refine ee_bipush (v := (14 : Int32)) dD_readSizes_202 (by decide) ?_
          refine ee_iadd dD_readSizes_204 ?_
          refine ee_bind (fun _ ho205 => ?_)
          refine ee_callV (as := [.int (l2 + (14 : Int32))]) (st := []) dD_readSizes_205 (t_fD_four l0 (l2 + (14 : Int32)) w192) my_fD_four.1 (Nat.le_of_ble_eq_true rfl) my_fD_four.2 rfl cf_10.1 rfl (p_obj_eq.mp ho205) gw_1499 gw_1501 gw_34 ⟨Nat.le_of_ble_eq_true rfl, Nat.le_of_ble_eq_true rfl⟩ (Nat.le_of_ble_eq_true rfl) (fun rv205 w205 _ => ?_)
          refine ee_kJ (fun v205 => ?_)
          refine ee_lconst (v := (0 : Int64)) dD_readSizes_208 (by decide) ?_
          refine ee_lcmp dD_readSizes_209 ?_
          refine ee_if_ne (tgt := 217) dD_readSizes_210 (by decide) (fun h210 => ?_) (fun h210 => ?_)
          · refine ee_iconst (v := (0 : Int32)) dD_readSizes_217 (by decide) ?_
            refine ee_pick [1, 2, 3, 4] rfl ?_
            exact t_fD_readSizes_218 _ _ _ _ _ w205
          · refine ee_iconst (v := (1 : Int32)) dD_readSizes_213 (by decide) ?_
            refine ee_goto (tgt := 218) dD_readSizes_214 (by decide) ?_
            refine ee_pick [1, 2, 3, 4] rfl ?_
            exact t_fD_readSizes_218 _ _ _ _ _ w205
def fD_readSizes (l0 : Nat) (w : PW) : PX := (p_getI w l0 10 40).bind fun v1 => (p_getI w l0 10 39).bind fun v5 => if (v1 - v5) < (4 : Int32) then (fD_readSizes_44 l0 w) else ((p_getR w l0 10 23).bind fun v14 => (p_getI w l0 10 39).bind fun v18 => (p_ald w v14 0 v18).bind fun v21 => if ¬ v21 = (255 : Int32) then (fD_readSizes_44 l0 w) else ((p_getR w l0 10 23).bind fun v29 => (p_getI w l0 10 39).bind fun v33 => (p_ald w v29 0 (v33 + (1 : Int32))).bind fun v38 => if v38 = (81 : Int32) then ((p_getI w l0 10 39).bind fun v55 => (p_obj w l0 10).bind fun _ => p_call (fD_two l0 (v55 + (2 : Int32)) w) <| p_kI fun v60 w60 => if v60 < (41 : Int32) then (fD_readSizes_85 l0 w60) else ((p_getI w60 l0 10 39).bind fun v71 => (p_getI w60 l0 10 40).bind fun v79 => if ((v71 + (2 : Int32)) + v60) ≤ v79 then ((p_getI w60 l0 10 39).bind fun v95 => p_let ((v95 + (4 : Int32))) fun (l2_100 : Int32) => (p_obj w60 l0 10).bind fun _ => p_call (fD_two l0 (l2_100 + (34 : Int32)) w60) <| p_kI fun v106 w106 => if ¬ v60 = ((38 : Int32) + ((3 : Int32) * v106)) then (fD_readSizes_145 l0 v60 l2_100 v106 (0 : Int32) w106) else (p_call (fD_in (Int32.toInt64 v106) (1 : Int64) (4 : Int64) w106) <| p_kI fun v126 w126 => if v126 = 0 then (fD_readSizes_145 l0 v60 l2_100 v106 (0 : Int32) w126) else ((p_obj w126 l0 10).bind fun _ => p_call (fD_two l0 l2_100 w126) <| p_kI fun v134 w134 => if ¬ v134 = 0 then (fD_readSizes_145 l0 v60 l2_100 v106 (0 : Int32) w134) else (fD_readSizes_145 l0 v60 l2_100 v106 (1 : Int32) w134)))) else (fD_readSizes_85 l0 w60))) else (fD_readSizes_44 l0 w)))
set_option maxRecDepth 20000 in
set_option maxHeartbeats 2000000 in
theorem t_fD_readSizes {Γ : PG} : ∀ (l0 : Nat) (w : PW), EE Γ MD_readSizes 0 (lv_args 0 [.ref l0]) [] w (fD_readSizes l0 w) := by
  intro l0 w
  unfold fD_readSizes
  show EE Γ MD_readSizes 0 [(0, .ref l0)] [] w _
  refine ee_aload_n 0 dD_readSizes_0 rfl ?_
  refine ee_getI dD_readSizes_1 lfD_304 (fun v1 _ => ?_)
  refine ee_aload_n 0 dD_readSizes_4 rfl ?_
  refine ee_getI dD_readSizes_5 lfD_301 (fun v5 _ => ?_)
  refine ee_isub dD_readSizes_8 ?_
  refine ee_iconst (v := (4 : Int32)) dD_readSizes_9 (by decide) ?_
  refine ee_icmp_lt (tgt := 44) dD_readSizes_10 (by decide) (fun h10 => ?_) (fun h10 => ?_)
  · exact t_fD_readSizes_44 _ w
  · refine ee_aload_n 0 dD_readSizes_13 rfl ?_
    refine ee_getR dD_readSizes_14 lfD_60 (fun v14 _ => ?_)
    refine ee_aload_n 0 dD_readSizes_17 rfl ?_
    refine ee_getI dD_readSizes_18 lfD_301 (fun v18 _ => ?_)
    refine ee_iald (t := 0) dD_readSizes_21 rfl (fun v21 _ => ?_)
    refine ee_sipush (v := (255 : Int32)) dD_readSizes_22 (by decide) ?_
    refine ee_icmp_ne (tgt := 44) dD_readSizes_25 (by decide) (fun h25 => ?_) (fun h25 => ?_)
    · exact t_fD_readSizes_44 _ w
    · refine ee_aload_n 0 dD_readSizes_28 rfl ?_
      refine ee_getR dD_readSizes_29 lfD_60 (fun v29 _ => ?_)
      refine ee_aload_n 0 dD_readSizes_32 rfl ?_
      refine ee_getI dD_readSizes_33 lfD_301 (fun v33 _ => ?_)
      refine ee_iconst (v := (1 : Int32)) dD_readSizes_36 (by decide) ?_
      refine ee_iadd dD_readSizes_37 ?_
      refine ee_iald (t := 0) dD_readSizes_38 rfl (fun v38 _ => ?_)
      refine ee_bipush (v := (81 : Int32)) dD_readSizes_39 (by decide) ?_
      refine ee_icmp_eq (tgt := 53) dD_readSizes_41 (by decide) (fun h41 => ?_) (fun h41 => ?_)
      · refine ee_aload_n 0 dD_readSizes_53 rfl ?_
        refine ee_aload_n 0 dD_readSizes_54 rfl ?_
        refine ee_getI dD_readSizes_55 lfD_301 (fun v55 _ => ?_)
        refine ee_iconst (v := (2 : Int32)) dD_readSizes_58 (by decide) ?_
        refine ee_iadd dD_readSizes_59 ?_
        refine ee_bind (fun _ ho60 => ?_)
        refine ee_callV (as := [.int (v55 + (2 : Int32))]) (st := []) dD_readSizes_60 (t_fD_two l0 (v55 + (2 : Int32)) w) my_fD_two.1 (Nat.le_of_ble_eq_true rfl) my_fD_two.2 rfl cf_10.1 rfl (p_obj_eq.mp ho60) gw_1540 gw_1542 gw_42 ⟨Nat.le_of_ble_eq_true rfl, Nat.le_of_ble_eq_true rfl⟩ (Nat.le_of_ble_eq_true rfl) (fun rv60 w60 _ => ?_)
        refine ee_kI (fun v60 => ?_)
        refine ee_istore_n (lv2 := [(1, .int v60), (0, .ref l0)]) dD_readSizes_63 (Nat.le_of_ble_eq_true rfl) rfl ?_
        refine ee_iload_n 0 dD_readSizes_64 rfl ?_
        refine ee_bipush (v := (41 : Int32)) dD_readSizes_65 (by decide) ?_
        refine ee_icmp_lt (tgt := 85) dD_readSizes_67 (by decide) (fun h67 => ?_) (fun h67 => ?_)
        · refine ee_pick [1] rfl ?_
          exact t_fD_readSizes_85 _ w60
        · refine ee_aload_n 1 dD_readSizes_70 rfl ?_
          refine ee_getI dD_readSizes_71 lfD_301 (fun v71 _ => ?_)
          refine ee_iconst (v := (2 : Int32)) dD_readSizes_74 (by decide) ?_
          refine ee_iadd dD_readSizes_75 ?_
          refine ee_iload_n 0 dD_readSizes_76 rfl ?_
          refine ee_iadd dD_readSizes_77 ?_
          refine ee_aload_n 1 dD_readSizes_78 rfl ?_
          refine ee_getI dD_readSizes_79 lfD_304 (fun v79 _ => ?_)
          refine ee_icmp_le (tgt := 94) dD_readSizes_82 (by decide) (fun h82 => ?_) (fun h82 => ?_)
          · refine ee_aload_n 1 dD_readSizes_94 rfl ?_
            refine ee_getI dD_readSizes_95 lfD_301 (fun v95 _ => ?_)
            refine ee_iconst (v := (4 : Int32)) dD_readSizes_98 (by decide) ?_
            refine ee_iadd dD_readSizes_99 ?_
            refine ee_letI (fun l2_100 _ => ?_)
            refine ee_istore_n (lv2 := [(2, .int l2_100), (1, .int v60), (0, .ref l0)]) dD_readSizes_100 (Nat.le_of_ble_eq_true rfl) rfl ?_
            refine ee_aload_n 2 dD_readSizes_101 rfl ?_
            refine ee_iload_n 0 dD_readSizes_102 rfl ?_
            refine ee_bipush (v := (34 : Int32)) dD_readSizes_103 (by decide) ?_
            refine ee_iadd dD_readSizes_105 ?_
            refine ee_bind (fun _ ho106 => ?_)
            refine ee_callV (as := [.int (l2_100 + (34 : Int32))]) (st := []) dD_readSizes_106 (t_fD_two l0 (l2_100 + (34 : Int32)) w60) my_fD_two.1 (Nat.le_of_ble_eq_true rfl) my_fD_two.2 rfl cf_10.1 rfl (p_obj_eq.mp ho106) gw_1540 gw_1542 gw_42 ⟨Nat.le_of_ble_eq_true rfl, Nat.le_of_ble_eq_true rfl⟩ (Nat.le_of_ble_eq_true rfl) (fun rv106 w106 _ => ?_)
            refine ee_kI (fun v106 => ?_)
            refine ee_istore_n (lv2 := [(3, .int v106), (2, .int l2_100), (1, .int v60), (0, .ref l0)]) dD_readSizes_109 (Nat.le_of_ble_eq_true rfl) rfl ?_
            refine ee_iload_n 2 dD_readSizes_110 rfl ?_
            refine ee_bipush (v := (38 : Int32)) dD_readSizes_111 (by decide) ?_
            refine ee_iconst (v := (3 : Int32)) dD_readSizes_113 (by decide) ?_
            refine ee_iload_n 0 dD_readSizes_114 rfl ?_
            refine ee_imul dD_readSizes_115 ?_
            refine ee_iadd dD_readSizes_116 ?_
            refine ee_icmp_ne (tgt := 144) dD_readSizes_117 (by decide) (fun h117 => ?_) (fun h117 => ?_)
            · refine ee_iconst (v := (0 : Int32)) dD_readSizes_144 (by decide) ?_
              refine ee_pick [3, 2, 1, 0] rfl ?_
              exact t_fD_readSizes_145 _ _ _ _ _ w106
            · refine ee_iload_n 0 dD_readSizes_120 rfl ?_
              refine ee_i2l dD_readSizes_121 ?_
              refine ee_lconst (v := (1 : Int64)) dD_readSizes_122 (by decide) ?_
              refine ee_ldc2 (v := (4 : Int64)) dD_readSizes_123 gw_1339 ?_
              refine ee_callS (as := [.long (Int32.toInt64 v106), .long (1 : Int64), .long (4 : Int64)]) (st := []) dD_readSizes_126 (t_fD_in (Int32.toInt64 v106) (1 : Int64) (4 : Int64) w106) my_fD_in.1 (Nat.le_of_ble_eq_true rfl) my_fD_in.2 rfl gw_1320 gw_1321 ⟨Nat.le_of_ble_eq_true rfl, Nat.le_of_ble_eq_true rfl⟩ (Nat.le_of_ble_eq_true rfl) (fun rv126 w126 _ => ?_)
              refine ee_kI (fun v126 => ?_)
              refine ee_if_eq (tgt := 144) dD_readSizes_129 (by decide) (fun h129 => ?_) (fun h129 => ?_)
              · refine ee_iconst (v := (0 : Int32)) dD_readSizes_144 (by decide) ?_
                refine ee_pick [3, 2, 1, 0] rfl ?_
                exact t_fD_readSizes_145 _ _ _ _ _ w126
              · refine ee_aload_n 3 dD_readSizes_132 rfl ?_
                refine ee_iload_n 1 dD_readSizes_133 rfl ?_
                refine ee_bind (fun _ ho134 => ?_)
                refine ee_callV (as := [.int l2_100]) (st := []) dD_readSizes_134 (t_fD_two l0 l2_100 w126) my_fD_two.1 (Nat.le_of_ble_eq_true rfl) my_fD_two.2 rfl cf_10.1 rfl (p_obj_eq.mp ho134) gw_1540 gw_1542 gw_42 ⟨Nat.le_of_ble_eq_true rfl, Nat.le_of_ble_eq_true rfl⟩ (Nat.le_of_ble_eq_true rfl) (fun rv134 w134 _ => ?_)
                refine ee_kI (fun v134 => ?_)
                refine ee_if_ne (tgt := 144) dD_readSizes_137 (by decide) (fun h137 => ?_) (fun h137 => ?_)
                · refine ee_iconst (v := (0 : Int32)) dD_readSizes_144 (by decide) ?_
                  refine ee_pick [3, 2, 1, 0] rfl ?_
                  exact t_fD_readSizes_145 _ _ _ _ _ w134
                · refine ee_iconst (v := (1 : Int32)) dD_readSizes_140 (by decide) ?_
                  refine ee_goto (tgt := 145) dD_readSizes_141 (by decide) ?_
                  refine ee_pick [3, 2, 1, 0] rfl ?_
                  exact t_fD_readSizes_145 _ _ _ _ _ w134
          · refine ee_pick [1] rfl ?_
            exact t_fD_readSizes_85 _ w60
      · exact t_fD_readSizes_44 _ w
