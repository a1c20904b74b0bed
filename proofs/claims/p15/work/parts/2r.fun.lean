def fD_headOf_72 (k_8 : Nat → Int32 → Int32 → Int32 → Int32 → PW → PX) (l0 : Nat) (l2 : Int32) (l3 : Int32) (l4 : Int32) (l5 : Int32) (l6 : Int32) (w : PW) : PX := (p_getR w l0 10 23).bind fun v73 => (p_ald w v73 0 (l5 + (1 : Int32))).bind fun v80 => if ¬ v80 = (88 : Int32) then (k_8 l0 l2 l3 l4 l6 w) else ((p_obj w l0 10).bind fun _ => p_call (fD_takeLengths l0 l5 l6 w) <| p_kI fun v91 w91 => if ¬ v91 = 0 then (k_8 l0 l2 l3 l4 l6 w91) else (some (.inl (some (.int (-1 : Int32))), w91)))
set_option maxRecDepth 20000 in
set_option maxHeartbeats 2000000 in
theorem t_fD_headOf_72 {Γ : PG} {k_8 : Nat → Int32 → Int32 → Int32 → Int32 → PW → PX} (hk_8 : ∀ (l0 : Nat) (l2 : Int32) (l3 : Int32) (l4 : Int32) (l5 : Int32) (w : PW), EE Γ MD_headOf 8 [(0, .ref l0), (2, .int l2), (3, .int l3), (4, .int l4), (5, .int l5)] [] w (k_8 l0 l2 l3 l4 l5 w)) : ∀ (l0 : Nat) (l2 : Int32) (l3 : Int32) (l4 : Int32) (l5 : Int32) (l6 : Int32) (w : PW), EE Γ MD_headOf 72 [(0, .ref l0), (2, .int l2), (3, .int l3), (4, .int l4), (5, .int l5), (6, .int l6)] [] w (fD_headOf_72 k_8 l0 l2 l3 l4 l5 l6 w) := by
  intro l0 l2 l3 l4 l5 l6 w
  unfold fD_headOf_72
  refine ee_aload_n 0 dD_headOf_72 rfl ?_
  refine ee_getR dD_headOf_73 lfD_60 (fun v73 _ => ?_)
  refine ee_iload 4 dD_headOf_76 rfl ?_
  refine ee_iconst (v := (1 : Int32)) dD_headOf_78 (by decide) ?_
  refine ee_iadd dD_headOf_79 ?_
  refine ee_iald (t := 0) dD_headOf_80 rfl (fun v80 _ => ?_)
  refine ee_bipush (v := (88 : Int32)) dD_headOf_81 (by decide) ?_
  refine ee_icmp_ne (tgt := 99) dD_headOf_83 (by decide) (fun h83 => ?_) (fun h83 => ?_)
  · refine ee_iload 5 dD_headOf_99 rfl ?_
    refine ee_istore (lv2 := [(5, .int l6), (0, .ref l0), (2, .int l2), (3, .int l3), (4, .int l4), (6, .int l6)]) dD_headOf_101 (Nat.le_of_ble_eq_true rfl) rfl ?_
    refine ee_goto (tgt := 8) dD_headOf_103 (by decide) ?_
    refine ee_pick [1, 2, 3, 4, 0] rfl ?_
    exact hk_8 _ _ _ _ _ w
  · refine ee_aload_n 0 dD_headOf_86 rfl ?_
    refine ee_iload 4 dD_headOf_87 rfl ?_
    refine ee_iload 5 dD_headOf_89 rfl ?_
    refine ee_bind (fun _ ho91 => ?_)
    refine ee_callV (as := [.int l5, .int l6]) (st := []) dD_headOf_91 (t_fD_takeLengths l0 l5 l6 w) my_fD_takeLengths.1 (Nat.le_of_ble_eq_true rfl) my_fD_takeLengths.2 rfl cf_10.1 rfl (p_obj_eq.mp ho91) gw_1573 gw_1575 gw_49 ⟨Nat.le_of_ble_eq_true rfl, Nat.le_of_ble_eq_true rfl⟩ (Nat.le_of_ble_eq_true rfl) (fun rv91 w91 _ => ?_)
    refine ee_kI (fun v91 => ?_)
    refine ee_if_ne (tgt := 99) dD_headOf_94 (by decide) (fun h94 => ?_) (fun h94 => ?_)
    · refine ee_iload 5 dD_headOf_99 rfl ?_
      refine ee_istore (lv2 := [(5, .int l6), (0, .ref l0), (2, .int l2), (3, .int l3), (4, .int l4), (6, .int l6)]) dD_headOf_101 (Nat.le_of_ble_eq_true rfl) rfl ?_
      refine ee_goto (tgt := 8) dD_headOf_103 (by decide) ?_
      refine ee_pick [1, 2, 3, 4, 0] rfl ?_
      exact hk_8 _ _ _ _ _ w91
    · refine ee_iconst (v := (-1 : Int32)) dD_headOf_97 (by decide) ?_
      exact ee_iret rfl dD_headOf_98
def fD_headOf_8 : Nat → Nat → Int32 → Int32 → Int32 → Int32 → PW → PX
  | 0, _, _, _, _, _, _ => none
  | n9 + 1, l0, l2, l3, l4, l5, w => (p_obj w l0 10).bind fun _ => p_call (fD_isMark l0 l5 l2 (147 : Int32) w) <| p_kI fun v15 w15 => if ¬ v15 = 0 then (some (.inl (some (.int (l5 + (2 : Int32)))), w15)) else ((p_obj w15 l0 10).bind fun _ => p_call (fD_behind l0 l5 l2 w15) <| p_kI fun v25 w25 => if ¬ v25 = (-1 : Int32) then ((p_getR w25 l0 10 23).bind fun v39 => (p_ald w25 v39 0 (l5 + (1 : Int32))).bind fun v46 => p_call (fD_isSegment v46 w25) <| p_kI fun v47 w47 => if v47 = 0 then (fD_headOf_72 (fD_headOf_8 n9) l0 l2 l3 l4 l5 v25 w47) else (if l4 = 0 then (some (.inl (some (.int (-1 : Int32))), w47)) else ((p_obj w47 l0 10).bind fun _ => p_call (fD_takeSegment l0 l5 l3 w47) <| p_kI fun v66 w66 => if v66 = 0 then (some (.inl (some (.int (-1 : Int32))), w66)) else (fD_headOf_72 (fD_headOf_8 n9) l0 l2 l3 l4 l5 v25 w66)))) else (some (.inl (some (.int (-1 : Int32))), w25)))
set_option maxRecDepth 20000 in
set_option maxHeartbeats 2000000 in
theorem t_fD_headOf_8 {Γ : PG} : ∀ (n9 : Nat) (l0 : Nat) (l2 : Int32) (l3 : Int32) (l4 : Int32) (l5 : Int32) (w : PW), EE Γ MD_headOf 8 [(0, .ref l0), (2, .int l2), (3, .int l3), (4, .int l4), (5, .int l5)] [] w (fD_headOf_8 n9 l0 l2 l3 l4 l5 w) := by
  intro n9
  induction n9 with
  | zero => intro l0 l2 l3 l4 l5 w; exact ee_none
  | succ n9 ih =>
    intro l0 l2 l3 l4 l5 w
    unfold fD_headOf_8
    refine ee_aload_n 0 dD_headOf_8 rfl ?_
    refine ee_iload 4 dD_headOf_9 rfl ?_
    refine ee_iload_n 1 dD_headOf_11 rfl ?_
    refine ee_sipush (v := (147 : Int32)) dD_headOf_12 (by decide) ?_
    refine ee_bind (fun _ ho15 => ?_)
    refine ee_callV (as := [.int l5, .int l2, .int (147 : Int32)]) (st := []) dD_headOf_15 (t_fD_isMark l0 l5 l2 (147 : Int32) w) my_fD_isMark.1 (Nat.le_of_ble_eq_true rfl) my_fD_isMark.2 rfl cf_10.1 rfl (p_obj_eq.mp ho15) gw_1487 gw_1489 gw_31 ⟨Nat.le_of_ble_eq_true rfl, Nat.le_of_ble_eq_true rfl⟩ (Nat.le_of_ble_eq_true rfl) (fun rv15 w15 _ => ?_)
    refine ee_kI (fun v15 => ?_)
    refine ee_if_ne (tgt := 106) dD_headOf_18 (by decide) (fun h18 => ?_) (fun h18 => ?_)
    · refine ee_iload 4 dD_headOf_106 rfl ?_
      refine ee_iconst (v := (2 : Int32)) dD_headOf_108 (by decide) ?_
      refine ee_iadd dD_headOf_109 ?_
      exact ee_iret rfl dD_headOf_110
    · refine ee_aload_n 0 dD_headOf_21 rfl ?_
      refine ee_iload 4 dD_headOf_22 rfl ?_
      refine ee_iload_n 1 dD_headOf_24 rfl ?_
      refine ee_bind (fun _ ho25 => ?_)
      refine ee_callV (as := [.int l5, .int l2]) (st := []) dD_headOf_25 (t_fD_behind l0 l5 l2 w15) my_fD_behind.1 (Nat.le_of_ble_eq_true rfl) my_fD_behind.2 rfl cf_10.1 rfl (p_obj_eq.mp ho25) gw_1545 gw_1547 gw_43 ⟨Nat.le_of_ble_eq_true rfl, Nat.le_of_ble_eq_true rfl⟩ (Nat.le_of_ble_eq_true rfl) (fun rv25 w25 _ => ?_)
      refine ee_kI (fun v25 => ?_)
      refine ee_istore (lv2 := [(6, .int v25), (0, .ref l0), (2, .int l2), (3, .int l3), (4, .int l4), (5, .int l5)]) dD_headOf_28 (Nat.le_of_ble_eq_true rfl) rfl ?_
      refine ee_iload 0 dD_headOf_30 rfl ?_
      refine ee_iconst (v := (-1 : Int32)) dD_headOf_32 (by decide) ?_
      refine ee_icmp_ne (tgt := 38) dD_headOf_33 (by decide) (fun h33 => ?_) (fun h33 => ?_)
      · refine ee_aload_n 1 dD_headOf_38 rfl ?_
        refine ee_getR dD_headOf_39 lfD_60 (fun v39 _ => ?_)
        refine ee_iload 5 dD_headOf_42 rfl ?_
        refine ee_iconst (v := (1 : Int32)) dD_headOf_44 (by decide) ?_
        refine ee_iadd dD_headOf_45 ?_
        refine ee_iald (t := 0) dD_headOf_46 rfl (fun v46 _ => ?_)
        refine ee_callS (as := [.int v46]) (st := []) dD_headOf_47 (t_fD_isSegment v46 w25) my_fD_isSegment.1 (Nat.le_of_ble_eq_true rfl) my_fD_isSegment.2 rfl gw_1549 gw_1550 ⟨Nat.le_of_ble_eq_true rfl, Nat.le_of_ble_eq_true rfl⟩ (Nat.le_of_ble_eq_true rfl) (fun rv47 w47 _ => ?_)
        refine ee_kI (fun v47 => ?_)
        refine ee_istore (lv2 := [(7, .int v47), (6, .int v25), (0, .ref l0), (2, .int l2), (3, .int l3), (4, .int l4), (5, .int l5)]) dD_headOf_50 (Nat.le_of_ble_eq_true rfl) rfl ?_
        refine ee_iload 0 dD_headOf_52 rfl ?_
        refine ee_if_eq (tgt := 72) dD_headOf_54 (by decide) (fun h54 => ?_) (fun h54 => ?_)
        · refine ee_pick [2, 3, 4, 5, 6, 1] rfl ?_
          exact t_fD_headOf_72 ih _ _ _ _ _ _ w47
        · refine ee_iload 5 dD_headOf_57 rfl ?_
          refine ee_if_eq (tgt := 97) dD_headOf_59 (by decide) (fun h59 => ?_) (fun h59 => ?_)
          · refine ee_iconst (v := (-1 : Int32)) dD_headOf_97 (by decide) ?_
            exact ee_iret rfl dD_headOf_98
          · refine ee_aload_n 2 dD_headOf_62 rfl ?_
            refine ee_iload 6 dD_headOf_63 rfl ?_
            refine ee_iload_n 4 dD_headOf_65 rfl ?_
            refine ee_bind (fun _ ho66 => ?_)
            refine ee_callV (as := [.int l5, .int l3]) (st := []) dD_headOf_66 (t_fD_takeSegment l0 l5 l3 w47) my_fD_takeSegment.1 (Nat.le_of_ble_eq_true rfl) my_fD_takeSegment.2 rfl cf_10.1 rfl (p_obj_eq.mp ho66) gw_1552 gw_1554 gw_44 ⟨Nat.le_of_ble_eq_true rfl, Nat.le_of_ble_eq_true rfl⟩ (Nat.le_of_ble_eq_true rfl) (fun rv66 w66 _ => ?_)
            refine ee_kI (fun v66 => ?_)
            refine ee_if_eq (tgt := 97) dD_headOf_69 (by decide) (fun h69 => ?_) (fun h69 => ?_)
            · refine ee_iconst (v := (-1 : Int32)) dD_headOf_97 (by decide) ?_
              exact ee_iret rfl dD_headOf_98
            · refine ee_pick [2, 3, 4, 5, 6, 1] rfl ?_
              exact t_fD_headOf_72 ih _ _ _ _ _ _ w66
      · refine ee_iconst (v := (-1 : Int32)) dD_headOf_36 (by decide) ?_
        exact ee_iret rfl dD_headOf_37
def fD_headOf (l0 : Nat) (l1 : Int32) (l2 : Int32) (l3 : Int32) (l4 : Int32) (w : PW) : PX := (p_put w l0 10 43 (.int (0 : Int32))).bind fun w5 => fD_headOf_8 FUEL l0 l2 l3 l4 l1 w5
set_option maxRecDepth 20000 in
set_option maxHeartbeats 2000000 in
theorem t_fD_headOf {Γ : PG} : ∀ (l0 : Nat) (l1 : Int32) (l2 : Int32) (l3 : Int32) (l4 : Int32) (w : PW), EE Γ MD_headOf 0 (lv_args 0 [.ref l0, .int l1, .int l2, .int l3, .int l4]) [] w (fD_headOf l0 l1 l2 l3 l4 w) := by
  intro l0 l1 l2 l3 l4 w
  unfold fD_headOf
  show EE Γ MD_headOf 0 [(0, .ref l0), (1, .int l1), (2, .int l2), (3, .int l3), (4, .int l4)] [] w _
  refine ee_iload_n 1 dD_headOf_0 rfl ?_
  refine ee_istore (lv2 := [(5, .int l1), (0, .ref l0), (1, .int l1), (2, .int l2), (3, .int l3), (4, .int l4)]) dD_headOf_1 (Nat.le_of_ble_eq_true rfl) rfl ?_
  refine ee_aload_n 1 dD_headOf_3 rfl ?_
  refine ee_iconst (v := (0 : Int32)) dD_headOf_4 (by decide) ?_
  refine ee_put dD_headOf_5 lpD_343 (ee_nI _) (fun w5 _ => ?_)
  refine ee_pick [1, 3, 4, 5, 0] rfl ?_
  exact t_fD_headOf_8 FUEL _ _ _ _ _ w5
def fD_forget_2 : Nat → Nat → Int32 → Int32 → PW → PX
  | 0, _, _, _, _ => none
  | n9 + 1, l0, l1, l2, w => if (4 : Int32) ≤ l2 then (some (.inl none, w)) else ((p_getR w l0 10 4).bind fun v8 => p_call (fD_placeOf l1 l2 w) <| p_kI fun v15 w15 => (p_ast w15 v8 2 ((125 : Int32) + v15) (vp_nar .boolean (0 : Int32))).bind fun w20 => (p_getR w20 l0 10 5).bind fun v22 => p_call (fD_placeOf l1 l2 w20) <| p_kI fun v29 w29 => (p_ast w29 v22 2 ((125 : Int32) + v29) (vp_nar .boolean (0 : Int32))).bind fun w34 => p_let (l2 + (1 : Int32)) fun (l2_35 : Int32) => (fD_forget_2 n9) l0 l1 l2_35 w34)
set_option maxRecDepth 20000 in
set_option maxHeartbeats 2000000 in
theorem t_fD_forget_2 {Γ : PG} : ∀ (n9 : Nat) (l0 : Nat) (l1 : Int32) (l2 : Int32) (w : PW), EE Γ MD_forget 2 [(0, .ref l0), (1, .int l1), (2, .int l2)] [] w (fD_forget_2 n9 l0 l1 l2 w) := by
  intro n9
  induction n9 with
  | zero => intro l0 l1 l2 w; exact ee_none
  | succ n9 ih =>
    intro l0 l1 l2 w
    unfold fD_forget_2
    refine ee_iload_n 2 dD_forget_2 rfl ?_
    refine ee_iconst (v := (4 : Int32)) dD_forget_3 (by decide) ?_
    refine ee_icmp_ge (tgt := 41) dD_forget_4 (by decide) (fun h4 => ?_) (fun h4 => ?_)
    · exact ee_vret rfl dD_forget_41
    · refine ee_aload_n 0 dD_forget_7 rfl ?_
      refine ee_getR dD_forget_8 lfD_13 (fun v8 _ => ?_)
      refine ee_bipush (v := (125 : Int32)) dD_forget_11 (by decide) ?_
      refine ee_iload_n 1 dD_forget_13 rfl ?_
      refine ee_iload_n 2 dD_forget_14 rfl ?_
      refine ee_callS (as := [.int l1, .int l2]) (st := [.int (125 : Int32), .ref v8]) dD_forget_15 (t_fD_placeOf l1 l2 w) my_fD_placeOf.1 (Nat.le_of_ble_eq_true rfl) my_fD_placeOf.2 rfl gw_1356 gw_1357 ⟨Nat.le_of_ble_eq_true rfl, Nat.le_of_ble_eq_true rfl⟩ (Nat.le_of_ble_eq_true rfl) (fun rv15 w15 _ => ?_)
      refine ee_kI (fun v15 => ?_)
      refine ee_iadd dD_forget_18 ?_
      refine ee_iconst (v := (0 : Int32)) dD_forget_19 (by decide) ?_
      refine ee_zast (t := 2) dD_forget_20 rfl (fun w20 _ => ?_)
      refine ee_aload_n 0 dD_forget_21 rfl ?_
      refine ee_getR dD_forget_22 lfD_17 (fun v22 _ => ?_)
      refine ee_bipush (v := (125 : Int32)) dD_forget_25 (by decide) ?_
      refine ee_iload_n 1 dD_forget_27 rfl ?_
      refine ee_iload_n 2 dD_forget_28 rfl ?_
      refine ee_callS (as := [.int l1, .int l2]) (st := [.int (125 : Int32), .ref v22]) dD_forget_29 (t_fD_placeOf l1 l2 w20) my_fD_placeOf.1 (Nat.le_of_ble_eq_true rfl) my_fD_placeOf.2 rfl gw_1356 gw_1357 ⟨Nat.le_of_ble_eq_true rfl, Nat.le_of_ble_eq_true rfl⟩ (Nat.le_of_ble_eq_true rfl) (fun rv29 w29 _ => ?_)
      refine ee_kI (fun v29 => ?_)
      refine ee_iadd dD_forget_32 ?_
      refine ee_iconst (v := (0 : Int32)) dD_forget_33 (by decide) ?_
      refine ee_zast (t := 2) dD_forget_34 rfl (fun w34 _ => ?_)
      refine ee_iinc 2 dD_forget_35 rfl (e := (1 : Int32)) (by decide) (Nat.le_of_ble_eq_true rfl) (fun l2_35 _ => ?_)
      refine ee_lv (lv2 := [(2, .int l2_35), (0, .ref l0), (1, .int l1)]) rfl ?_
      refine ee_goto (tgt := 2) dD_forget_38 (by decide) ?_
      refine ee_pick [1, 2, 0] rfl ?_
      exact ih _ _ _ w34
def fD_forget (l0 : Nat) (l1 : Int32) (w : PW) : PX := fD_forget_2 FUEL l0 l1 (-1 : Int32) w
set_option maxRecDepth 20000 in
set_option maxHeartbeats 2000000 in
theorem t_fD_forget {Γ : PG} : ∀ (l0 : Nat) (l1 : Int32) (w : PW), EE Γ MD_forget 0 (lv_args 0 [.ref l0, .int l1]) [] w (fD_forget l0 l1 w) := by
  intro l0 l1 w
  unfold fD_forget
  show EE Γ MD_forget 0 [(0, .ref l0), (1, .int l1)] [] w _
  refine ee_iconst (v := (-1 : Int32)) dD_forget_0 (by decide) ?_
  refine ee_istore_n (lv2 := [(2, .int (-1 : Int32)), (0, .ref l0), (1, .int l1)]) dD_forget_1 (Nat.le_of_ble_eq_true rfl) rfl ?_
  refine ee_pick [1, 2, 0] rfl ?_
  exact t_fD_forget_2 FUEL _ _ _ w
def fD_takePackets_117 (l0 : Nat) (l1 : Int32) (l2 : Int32) (l7 : Int32) (l8 : Int64) (w : PW) : PX := (p_getR w l0 10 33).bind fun v118 => (p_ast w v118 0 l1 l2).bind fun w123 => (p_getR w123 l0 10 34).bind fun v125 => (p_ast w123 v125 0 l1 (Int64.toInt32 l8)).bind fun w132 => (p_getR w132 l0 10 35).bind fun v134 => (p_ast w132 v134 0 l1 l7).bind fun w140 => some (.inl none, w140)
set_option maxRecDepth 20000 in
set_option maxHeartbeats 2000000 in
theorem t_fD_takePackets_117 {Γ : PG} : ∀ (l0 : Nat) (l1 : Int32) (l2 : Int32) (l7 : Int32) (l8 : Int64) (w : PW), EE Γ MD_takePackets 117 [(0, .ref l0), (1, .int l1), (2, .int l2), (7, .int l7), (8, .long l8)] [] w (fD_takePackets_117 l0 l1 l2 l7 l8 w) := by
  intro l0 l1 l2 l7 l8 w
  unfold fD_takePackets_117
  refine ee_aload_n 0 dD_takePackets_117 rfl ?_
  refine ee_getR dD_takePackets_118 lfD_75 (fun v118 _ => ?_)
  refine ee_iload_n 1 dD_takePackets_121 rfl ?_
  refine ee_iload_n 2 dD_takePackets_122 rfl ?_
  refine ee_iast (t := 0) dD_takePackets_123 rfl (fun w123 _ => ?_)
  refine ee_aload_n 0 dD_takePackets_124 rfl ?_
  refine ee_getR dD_takePackets_125 lfD_78 (fun v125 _ => ?_)
  refine ee_iload_n 1 dD_takePackets_128 rfl ?_
  refine ee_lload 4 dD_takePackets_129 rfl ?_
  refine ee_l2i dD_takePackets_131 ?_
  refine ee_iast (t := 0) dD_takePackets_132 rfl (fun w132 _ => ?_)
  refine ee_aload_n 0 dD_takePackets_133 rfl ?_
  refine ee_getR dD_takePackets_134 lfD_81 (fun v134 _ => ?_)
  refine ee_iload_n 1 dD_takePackets_137 rfl ?_
  refine ee_iload 3 dD_takePackets_138 rfl ?_
  refine ee_iast (t := 0) dD_takePackets_140 rfl (fun w140 _ => ?_)
  exact ee_vret rfl dD_takePackets_141
def fD_takePackets_71 (k_12 : Nat → Int32 → Int32 → Int32 → Int32 → Int64 → Int32 → Int64 → Int32 → PW → PX) (l0 : Nat) (l1 : Int32) (l2 : Int32) (l3 : Int32) (l4 : Int32) (l5 : Int64) (l8 : Int64) (l10 : Int32) (l11 : Int32) (s0 : Int32) (s1 : Int32) (w : PW) : PX := p_let ((s1 + s0)) fun (l7_72 : Int32) => if l11 = 0 then (p_let (l10 + (1 : Int32)) fun (l10_88 : Int32) => k_12 l0 l1 l2 l3 l4 l5 l7_72 l8 l10_88 w) else (p_let (l10 + (1 : Int32)) fun (l10_88 : Int32) => k_12 l0 l1 l2 l3 l4 l5 l7_72 l5 l10_88 w)
set_option maxRecDepth 20000 in
set_option maxHeartbeats 2000000 in
theorem t_fD_takePackets_71 {Γ : PG} {k_12 : Nat → Int32 → Int32 → Int32 → Int32 → Int64 → Int32 → Int64 → Int32 → PW → PX} (hk_12 : ∀ (l0 : Nat) (l1 : Int32) (l2 : Int32) (l3 : Int32) (l4 : Int32) (l5 : Int64) (l7 : Int32) (l8 : Int64) (l10 : Int32) (w : PW), EE Γ MD_takePackets 12 [(0, .ref l0), (1, .int l1), (2, .int l2), (3, .int l3), (4, .int l4), (5, .long l5), (7, .int l7), (8, .long l8), (10, .int l10)] [] w (k_12 l0 l1 l2 l3 l4 l5 l7 l8 l10 w)) : ∀ (l0 : Nat) (l1 : Int32) (l2 : Int32) (l3 : Int32) (l4 : Int32) (l5 : Int64) (l8 : Int64) (l10 : Int32) (l11 : Int32) (s0 : Int32) (s1 : Int32) (w : PW), EE Γ MD_takePackets 71 [(0, .ref l0), (1, .int l1), (2, .int l2), (3, .int l3), (4, .int l4), (5, .long l5), (8, .long l8), (10, .int l10), (11, .int l11)] [.int s0, .int s1] w (fD_takePackets_71 k_12 l0 l1 l2 l3 l4 l5 l8 l10 l11 s0 s1 w) := by
  intro l0 l1 l2 l3 l4 l5 l8 l10 l11 s0 s1 w
  unfold fD_takePackets_71
  refine ee_iadd dD_takePackets_71 ?_
  refine ee_letI (fun l7_72 _ => ?_)
  refine ee_istore (lv2 := [(7, .int l7_72), (0, .ref l0), (1, .int l1), (2, .int l2), (3, .int l3), (4, .int l4), (5, .long l5), (8, .long l8), (10, .int l10), (11, .int l11)]) dD_takePackets_72 (Nat.le_of_ble_eq_true rfl) rfl ?_
  refine ee_iload 9 dD_takePackets_74 rfl ?_
  refine ee_if_eq (tgt := 84) dD_takePackets_76 (by decide) (fun h76 => ?_) (fun h76 => ?_)
  · refine ee_lload 7 dD_takePackets_84 rfl ?_
    refine ee_lstore (lv2 := [(8, .long l8), (7, .int l7_72), (0, .ref l0), (1, .int l1), (2, .int l2), (3, .int l3), (4, .int l4), (5, .long l5), (10, .int l10), (11, .int l11)]) dD_takePackets_86 (Nat.le_of_ble_eq_true rfl) rfl ?_
    refine ee_iinc 8 dD_takePackets_88 rfl (e := (1 : Int32)) (by decide) (Nat.le_of_ble_eq_true rfl) (fun l10_88 _ => ?_)
    refine ee_lv (lv2 := [(10, .int l10_88), (8, .long l8), (7, .int l7_72), (0, .ref l0), (1, .int l1), (2, .int l2), (3, .int l3), (4, .int l4), (5, .long l5), (11, .int l11)]) rfl ?_
    refine ee_goto (tgt := 12) dD_takePackets_91 (by decide) ?_
    refine ee_pick [3, 4, 5, 6, 7, 8, 2, 1, 0] rfl ?_
    exact hk_12 _ _ _ _ _ _ _ _ _ w
  · refine ee_lload 6 dD_takePackets_79 rfl ?_
    refine ee_goto (tgt := 86) dD_takePackets_81 (by decide) ?_
    refine ee_lstore (lv2 := [(8, .long l5), (7, .int l7_72), (0, .ref l0), (1, .int l1), (2, .int l2), (3, .int l3), (4, .int l4), (5, .long l5), (10, .int l10), (11, .int l11)]) dD_takePackets_86 (Nat.le_of_ble_eq_true rfl) rfl ?_
    refine ee_iinc 8 dD_takePackets_88 rfl (e := (1 : Int32)) (by decide) (Nat.le_of_ble_eq_true rfl) (fun l10_88 _ => ?_)
    refine ee_lv (lv2 := [(10, .int l10_88), (8, .long l5), (7, .int l7_72), (0, .ref l0), (1, .int l1), (2, .int l2), (3, .int l3), (4, .int l4), (5, .long l5), (11, .int l11)]) rfl ?_
    refine ee_goto (tgt := 12) dD_takePackets_91 (by decide) ?_
    refine ee_pick [3, 4, 5, 6, 7, 8, 2, 1, 0] rfl ?_
    exact hk_12 _ _ _ _ _ _ _ _ _ w
def fD_takePackets_57 (k_12 : Nat → Int32 → Int32 → Int32 → Int32 → Int64 → Int32 → Int64 → Int32 → PW → PX) (l0 : Nat) (l1 : Int32) (l2 : Int32) (l3 : Int32) (l4 : Int32) (l5 : Int64) (l7 : Int32) (l8 : Int64) (l10 : Int32) (s0 : Int32) (w : PW) : PX := if s0 = 0 then (fD_takePackets_71 k_12 l0 l1 l2 l3 l4 l5 l8 l10 s0 (0 : Int32) l7 w) else (fD_takePackets_71 k_12 l0 l1 l2 l3 l4 l5 l8 l10 s0 (1 : Int32) l7 w)
set_option maxRecDepth 20000 in
set_option maxHeartbeats 2000000 in
theorem t_fD_takePackets_57 {Γ : PG} {k_12 : Nat → Int32 → Int32 → Int32 → Int32 → Int64 → Int32 → Int64 → Int32 → PW → PX} (hk_12 : ∀ (l0 : Nat) (l1 : Int32) (l2 : Int32) (l3 : Int32) (l4 : Int32) (l5 : Int64) (l7 : Int32) (l8 : Int64) (l10 : Int32) (w : PW), EE Γ MD_takePackets 12 [(0, .ref l0), (1, .int l1), (2, .int l2), (3, .int l3), (4, .int l4), (5, .long l5), (7, .int l7), (8, .long l8), (10, .int l10)] [] w (k_12 l0 l1 l2 l3 l4 l5 l7 l8 l10 w)) : ∀ (l0 : Nat) (l1 : Int32) (l2 : Int32) (l3 : Int32) (l4 : Int32) (l5 : Int64) (l7 : Int32) (l8 : Int64) (l10 : Int32) (s0 : Int32) (w : PW), EE Γ MD_takePackets 57 [(0, .ref l0), (1, .int l1), (2, .int l2), (3, .int l3), (4, .int l4), (5, .long l5), (7, .int l7), (8, .long l8), (10, .int l10)] [.int s0] w (fD_takePackets_57 k_12 l0 l1 l2 l3 l4 l5 l7 l8 l10 s0 w) := by
  intro l0 l1 l2 l3 l4 l5 l7 l8 l10 s0 w
  unfold fD_takePackets_57
  refine ee_istore (lv2 := [(11, .int s0), (0, .ref l0), (1, .int l1), (2, .int l2), (3, .int l3), (4, .int l4), (5, .long l5), (7, .int l7), (8, .long l8), (10, .int l10)]) dD_takePackets_57 (Nat.le_of_ble_eq_true rfl) rfl ?_
  refine ee_iload 7 dD_takePackets_59 rfl ?_
  refine ee_iload 0 dD_takePackets_61 rfl ?_
  refine ee_if_eq (tgt := 70) dD_takePackets_63 (by decide) (fun h63 => ?_) (fun h63 => ?_)
  · refine ee_iconst (v := (0 : Int32)) dD_takePackets_70 (by decide) ?_
    refine ee_pick [1, 2, 3, 4, 5, 6, 8, 9, 0] rfl ?_
    exact t_fD_takePackets_71 hk_12 _ _ _ _ _ _ _ _ _ _ _ w
  · refine ee_iconst (v := (1 : Int32)) dD_takePackets_66 (by decide) ?_
    refine ee_goto (tgt := 71) dD_takePackets_67 (by decide) ?_
    refine ee_pick [1, 2, 3, 4, 5, 6, 8, 9, 0] rfl ?_
    exact t_fD_takePackets_71 hk_12 _ _ _ _ _ _ _ _ _ _ _ w
def fD_takePackets_12 : Nat → Nat → Int32 → Int32 → Int32 → Int32 → Int64 → Int32 → Int64 → Int32 → PW → PX
  | 0, _, _, _, _, _, _, _, _, _, _ => none
  | n9 + 1, l0, l1, l2, l3, l4, l5, l7, l8, l10, w => (p_getI w l0 10 43).bind fun v15 => if v15 ≤ l10 then (if ¬ l4 = 0 then (fD_takePackets_117 l0 l1 l2 l7 l8 w) else (if (lg_cmp l5 (Int32.toInt64 (l3 - l2))) = 0 then (fD_takePackets_117 l0 l1 l2 l7 l8 w) else ((p_getR w l0 10 36).bind fun v110 => (p_ast w v110 2 l1 (vp_nar .boolean (1 : Int32))).bind fun w115 => some (.inl none, w115)))) else ((p_getR w l0 10 42).bind fun v24 => (p_ald w v24 0 l10).bind fun v29 => p_let ((l5 + (Int32.toInt64 v29))) fun (l5_32 : Int64) => if ¬ l7 = l10 then (fD_takePackets_57 (fD_takePackets_12 n9) l0 l1 l2 l3 l4 l5_32 l7 l8 l10 (0 : Int32) w) else (if 0 < (lg_cmp ((Int32.toInt64 l2) + l5_32) (Int32.toInt64 l3)) then (fD_takePackets_57 (fD_takePackets_12 n9) l0 l1 l2 l3 l4 l5_32 l7 l8 l10 (0 : Int32) w) else (fD_takePackets_57 (fD_takePackets_12 n9) l0 l1 l2 l3 l4 l5_32 l7 l8 l10 (1 : Int32) w)))
set_option maxRecDepth 20000 in
set_option maxHeartbeats 2000000 in
theorem t_fD_takePackets_12 {Γ : PG} : ∀ (n9 : Nat) (l0 : Nat) (l1 : Int32) (l2 : Int32) (l3 : Int32) (l4 : Int32) (l5 : Int64) (l7 : Int32) (l8 : Int64) (l10 : Int32) (w : PW), EE Γ MD_takePackets 12 [(0, .ref l0), (1, .int l1), (2, .int l2), (3, .int l3), (4, .int l4), (5, .long l5), (7, .int l7), (8, .long l8), (10, .int l10)] [] w (fD_takePackets_12 n9 l0 l1 l2 l3 l4 l5 l7 l8 l10 w) := by
  intro n9
  induction n9 with
  | zero => intro l0 l1 l2 l3 l4 l5 l7 l8 l10 w; exact ee_none
  | succ n9 ih =>
    intro l0 l1 l2 l3 l4 l5 l7 l8 l10 w
    unfold fD_takePackets_12
    refine ee_iload 8 dD_takePackets_12 rfl ?_
    refine ee_aload_n 0 dD_takePackets_14 rfl ?_
    refine ee_getI dD_takePackets_15 lfD_343 (fun v15 _ => ?_)
    refine ee_icmp_ge (tgt := 94) dD_takePackets_18 (by decide) (fun h18 => ?_) (fun h18 => ?_)
    · refine ee_iload 4 dD_takePackets_94 rfl ?_
      refine ee_if_ne (tgt := 117) dD_takePackets_96 (by decide) (fun h96 => ?_) (fun h96 => ?_)
      · refine ee_pick [0, 1, 2, 6, 7] rfl ?_
        exact t_fD_takePackets_117 _ _ _ _ _ w
      · refine ee_lload 5 dD_takePackets_99 rfl ?_
        refine ee_iload_n 3 dD_takePackets_101 rfl ?_
        refine ee_iload_n 2 dD_takePackets_102 rfl ?_
        refine ee_isub dD_takePackets_103 ?_
        refine ee_i2l dD_takePackets_104 ?_
        refine ee_lcmp dD_takePackets_105 ?_
        refine ee_if_eq (tgt := 117) dD_takePackets_106 (by decide) (fun h106 => ?_) (fun h106 => ?_)
        · refine ee_pick [0, 1, 2, 6, 7] rfl ?_
          exact t_fD_takePackets_117 _ _ _ _ _ w
        · refine ee_aload_n 0 dD_takePackets_109 rfl ?_
          refine ee_getR dD_takePackets_110 lfD_84 (fun v110 _ => ?_)
          refine ee_iload_n 1 dD_takePackets_113 rfl ?_
          refine ee_iconst (v := (1 : Int32)) dD_takePackets_114 (by decide) ?_
          refine ee_zast (t := 2) dD_takePackets_115 rfl (fun w115 _ => ?_)
          exact ee_vret rfl dD_takePackets_116
    · refine ee_lload 5 dD_takePackets_21 rfl ?_
      refine ee_aload_n 0 dD_takePackets_23 rfl ?_
      refine ee_getR dD_takePackets_24 lfD_93 (fun v24 _ => ?_)
      refine ee_iload 8 dD_takePackets_27 rfl ?_
      refine ee_iald (t := 0) dD_takePackets_29 rfl (fun v29 _ => ?_)
      refine ee_i2l dD_takePackets_30 ?_
      refine ee_ladd dD_takePackets_31 ?_
      refine ee_letJ (fun l5_32 _ => ?_)
      refine ee_lstore (lv2 := [(5, .long l5_32), (0, .ref l0), (1, .int l1), (2, .int l2), (3, .int l3), (4, .int l4), (7, .int l7), (8, .long l8), (10, .int l10)]) dD_takePackets_32 (Nat.le_of_ble_eq_true rfl) rfl ?_
      refine ee_iload 6 dD_takePackets_34 rfl ?_
      refine ee_iload 8 dD_takePackets_36 rfl ?_
      refine ee_icmp_ne (tgt := 56) dD_takePackets_38 (by decide) (fun h38 => ?_) (fun h38 => ?_)
      · refine ee_iconst (v := (0 : Int32)) dD_takePackets_56 (by decide) ?_
        refine ee_pick [1, 2, 3, 4, 5, 0, 6, 7, 8] rfl ?_
        exact t_fD_takePackets_57 ih _ _ _ _ _ _ _ _ _ _ w
      · refine ee_iload_n 3 dD_takePackets_41 rfl ?_
        refine ee_i2l dD_takePackets_42 ?_
        refine ee_lload 0 dD_takePackets_43 rfl ?_
        refine ee_ladd dD_takePackets_45 ?_
        refine ee_iload_n 4 dD_takePackets_46 rfl ?_
        refine ee_i2l dD_takePackets_47 ?_
        refine ee_lcmp dD_takePackets_48 ?_
        refine ee_if_gt (tgt := 56) dD_takePackets_49 (by decide) (fun h49 => ?_) (fun h49 => ?_)
        · refine ee_iconst (v := (0 : Int32)) dD_takePackets_56 (by decide) ?_
          refine ee_pick [1, 2, 3, 4, 5, 0, 6, 7, 8] rfl ?_
          exact t_fD_takePackets_57 ih _ _ _ _ _ _ _ _ _ _ w
        · refine ee_iconst (v := (1 : Int32)) dD_takePackets_52 (by decide) ?_
          refine ee_goto (tgt := 57) dD_takePackets_53 (by decide) ?_
          refine ee_pick [1, 2, 3, 4, 5, 0, 6, 7, 8] rfl ?_
          exact t_fD_takePackets_57 ih _ _ _ _ _ _ _ _ _ _ w
def fD_takePackets (l0 : Nat) (l1 : Int32) (l2 : Int32) (l3 : Int32) (l4 : Int32) (w : PW) : PX := fD_takePackets_12 FUEL l0 l1 l2 l3 l4 (0 : Int64) (0 : Int32) (0 : Int64) (0 : Int32) w
set_option maxRecDepth 20000 in
set_option maxHeartbeats 2000000 in
theorem t_fD_takePackets {Γ : PG} : ∀ (l0 : Nat) (l1 : Int32) (l2 : Int32) (l3 : Int32) (l4 : Int32) (w : PW), EE Γ MD_takePackets 0 (lv_args 0 [.ref l0, .int l1, .int l2, .int l3, .int l4]) [] w (fD_takePackets l0 l1 l2 l3 l4 w) := by
  intro l0 l1 l2 l3 l4 w
  unfold fD_takePackets
  show EE Γ MD_takePackets 0 [(0, .ref l0), (1, .int l1), (2, .int l2), (3, .int l3), (4, .int l4)] [] w _
  refine ee_lconst (v := (0 : Int64)) dD_takePackets_0 (by decide) ?_
  refine ee_lstore (lv2 := [(5, .long (0 : Int64)), (0, .ref l0), (1, .int l1), (2, .int l2), (3, .int l3), (4, .int l4)]) dD_takePackets_1 (Nat.le_of_ble_eq_true rfl) rfl ?_
  refine ee_iconst (v := (0 : Int32)) dD_takePackets_3 (by decide) ?_
  refine ee_istore (lv2 := [(7, .int (0 : Int32)), (5, .long (0 : Int64)), (0, .ref l0), (1, .int l1), (2, .int l2), (3, .int l3), (4, .int l4)]) dD_takePackets_4 (Nat.le_of_ble_eq_true rfl) rfl ?_
  refine ee_lconst (v := (0 : Int64)) dD_takePackets_6 (by decide) ?_
  refine ee_lstore (lv2 := [(8, .long (0 : Int64)), (7, .int (0 : Int32)), (5, .long (0 : Int64)), (0, .ref l0), (1, .int l1), (2, .int l2), (3, .int l3), (4, .int l4)]) dD_takePackets_7 (Nat.le_of_ble_eq_true rfl) rfl ?_
  refine ee_iconst (v := (0 : Int32)) dD_takePackets_9 (by decide) ?_
  refine ee_istore (lv2 := [(10, .int (0 : Int32)), (8, .long (0 : Int64)), (7, .int (0 : Int32)), (5, .long (0 : Int64)), (0, .ref l0), (1, .int l1), (2, .int l2), (3, .int l3), (4, .int l4)]) dD_takePackets_10 (Nat.le_of_ble_eq_true rfl) rfl ?_
  refine ee_pick [4, 5, 6, 7, 8, 3, 2, 1, 0] rfl ?_
  exact t_fD_takePackets_12 FUEL _ _ _ _ _ _ _ _ _ w
def fD_readPart_381 (l0 : Nat) (l5 : Int32) (s0 : Int32) (s1 : Int32) (s2 : Nat) (w : PW) : PX := (p_ast w s2 0 s1 s0).bind fun w381 => (p_getI w381 l0 10 30).bind fun v384 => (p_put w381 l0 10 30 (.int (v384 + (1 : Int32)))).bind fun w389 => (p_put w389 l0 10 39 (.int l5)).bind fun w395 => p_retZ (1 : Int32) w395
set_option maxRecDepth 20000 in
set_option maxHeartbeats 2000000 in
theorem t_fD_readPart_381 {Γ : PG} : ∀ (l0 : Nat) (l5 : Int32) (s0 : Int32) (s1 : Int32) (s2 : Nat) (w : PW), EE Γ MD_readPart 381 [(0, .ref l0), (5, .int l5)] [.int s0, .int s1, .ref s2] w (fD_readPart_381 l0 l5 s0 s1 s2 w) := by
  intro l0 l5 s0 s1 s2 w
  unfold fD_readPart_381
  refine ee_iast (t := 0) dD_readPart_381 rfl (fun w381 _ => ?_)
  refine ee_aload_n 0 dD_readPart_382 rfl ?_
  refine ee_dup dD_readPart_383 rfl ?_
  refine ee_getI dD_readPart_384 lfD_349 (fun v384 _ => ?_)
  refine ee_iconst (v := (1 : Int32)) dD_readPart_387 (by decide) ?_
  refine ee_iadd dD_readPart_388 ?_
  refine ee_put dD_readPart_389 lpD_349 (ee_nI _) (fun w389 _ => ?_)
  refine ee_aload_n 0 dD_readPart_392 rfl ?_
  refine ee_iload 1 dD_readPart_393 rfl ?_
  refine ee_put dD_readPart_395 lpD_301 (ee_nI _) (fun w395 _ => ?_)
  refine ee_iconst (v := (1 : Int32)) dD_readPart_398 (by decide) ?_
  exact ee_zret rfl dD_readPart_399
def fD_readPart_361 (l0 : Nat) (l3 : Int32) (l5 : Int32) (l6 : Int32) (w : PW) : PX := (p_getR w l0 10 31).bind fun v362 => (p_getR w l0 10 36).bind fun v367 => (p_ald w v367 2 l3).bind fun v371 => if v371 = 0 then (fD_readPart_381 l0 l5 l6 l3 v362 w) else (fD_readPart_381 l0 l5 (-1 : Int32) l3 v362 w)
set_option maxRecDepth 20000 in
set_option maxHeartbeats 2000000 in
theorem t_fD_readPart_361 {Γ : PG} : ∀ (l0 : Nat) (l3 : Int32) (l5 : Int32) (l6 : Int32) (w : PW), EE Γ MD_readPart 361 [(0, .ref l0), (3, .int l3), (5, .int l5), (6, .int l6)] [] w (fD_readPart_361 l0 l3 l5 l6 w) := by
  intro l0 l3 l5 l6 w
  unfold fD_readPart_361
  refine ee_aload_n 0 dD_readPart_361 rfl ?_
  refine ee_getR dD_readPart_362 lfD_69 (fun v362 _ => ?_)
  refine ee_iload_n 1 dD_readPart_365 rfl ?_
  refine ee_aload_n 0 dD_readPart_366 rfl ?_
  refine ee_getR dD_readPart_367 lfD_84 (fun v367 _ => ?_)
  refine ee_iload_n 1 dD_readPart_370 rfl ?_
  refine ee_zald (t := 2) dD_readPart_371 rfl (fun v371 _ => ?_)
  refine ee_if_eq (tgt := 379) dD_readPart_372 (by decide) (fun h372 => ?_) (fun h372 => ?_)
  · refine ee_iload 3 dD_readPart_379 rfl ?_
    refine ee_pick [0, 2] rfl ?_
    exact t_fD_readPart_381 _ _ _ _ _ w
  · refine ee_iconst (v := (-1 : Int32)) dD_readPart_375 (by decide) ?_
    refine ee_goto (tgt := 381) dD_readPart_376 (by decide) ?_
    refine ee_pick [0, 2] rfl ?_
    exact t_fD_readPart_381 _ _ _ _ _ w
def fD_readPart_337 (l0 : Nat) (l3 : Int32) (l5 : Int32) (l6 : Int32) (w : PW) : PX := (p_getR w l0 10 38).bind fun v338 => (p_ald w v338 0 l6).bind fun v344 => (p_getR w l0 10 36).bind fun v346 => (p_ald w v346 2 l3).bind fun v350 => if v350 = 0 then ((p_ast w v338 0 l6 (v344 + (1 : Int32))).bind fun w360 => fD_readPart_361 l0 l3 l5 l6 w360) else ((p_ast w v338 0 l6 (v344 + (0 : Int32))).bind fun w360 => fD_readPart_361 l0 l3 l5 l6 w360)
set_option maxRecDepth 20000 in
set_option maxHeartbeats 2000000 in
theorem t_fD_readPart_337 {Γ : PG} : ∀ (l0 : Nat) (l3 : Int32) (l5 : Int32) (l6 : Int32) (w : PW), EE Γ MD_readPart 337 [(0, .ref l0), (3, .int l3), (5, .int l5), (6, .int l6)] [] w (fD_readPart_337 l0 l3 l5 l6 w) := by
  intro l0 l3 l5 l6 w
  unfold fD_readPart_337
  refine ee_aload_n 0 dD_readPart_337 rfl ?_
  refine ee_getR dD_readPart_338 lfD_90 (fun v338 _ => ?_)
  refine ee_iload 3 dD_readPart_341 rfl ?_
  refine ee_dup2 dD_readPart_343 rfl rfl ?_
  refine ee_iald (t := 0) dD_readPart_344 rfl (fun v344 _ => ?_)
  refine ee_aload_n 0 dD_readPart_345 rfl ?_
  refine ee_getR dD_readPart_346 lfD_84 (fun v346 _ => ?_)
  refine ee_iload_n 1 dD_readPart_349 rfl ?_
  refine ee_zald (t := 2) dD_readPart_350 rfl (fun v350 _ => ?_)
  refine ee_if_eq (tgt := 358) dD_readPart_351 (by decide) (fun h351 => ?_) (fun h351 => ?_)
  · refine ee_iconst (v := (1 : Int32)) dD_readPart_358 (by decide) ?_
    refine ee_iadd dD_readPart_359 ?_
    refine ee_iast (t := 0) dD_readPart_360 rfl (fun w360 _ => ?_)
    exact t_fD_readPart_361 _ _ _ _ w360
  · refine ee_iconst (v := (0 : Int32)) dD_readPart_354 (by decide) ?_
    refine ee_goto (tgt := 359) dD_readPart_355 (by decide) ?_
    refine ee_iadd dD_readPart_359 ?_
    refine ee_iast (t := 0) dD_readPart_360 rfl (fun w360 _ => ?_)
    exact t_fD_readPart_361 _ _ _ _ w360
def fD_readPart_317 (l0 : Nat) (l3 : Int32) (l5 : Int32) (l6 : Int32) (l7 : Int32) (w : PW) : PX := (p_getR w l0 10 36).bind fun v318 => (p_ald w v318 2 l3).bind fun v322 => if v322 = 0 then (fD_readPart_337 l0 l3 l5 l6 w) else (if ¬ l7 = 0 then (fD_readPart_337 l0 l3 l5 l6 w) else ((p_obj w l0 10).bind fun _ => p_call (fD_forget l0 l6 w) <| p_kV fun w334 => fD_readPart_337 l0 l3 l5 l6 w334))
set_option maxRecDepth 20000 in
set_option maxHeartbeats 2000000 in
theorem t_fD_readPart_317 {Γ : PG} : ∀ (l0 : Nat) (l3 : Int32) (l5 : Int32) (l6 : Int32) (l7 : Int32) (w : PW), EE Γ MD_readPart 317 [(0, .ref l0), (3, .int l3), (5, .int l5), (6, .int l6), (7, .int l7)] [] w (fD_readPart_317 l0 l3 l5 l6 l7 w) := by
  intro l0 l3 l5 l6 l7 w
  unfold fD_readPart_317
  refine ee_aload_n 0 dD_readPart_317 rfl ?_
  refine ee_getR dD_readPart_318 lfD_84 (fun v318 _ => ?_)
  refine ee_iload_n 1 dD_readPart_321 rfl ?_
  refine ee_zald (t := 2) dD_readPart_322 rfl (fun v322 _ => ?_)
  refine ee_if_eq (tgt := 337) dD_readPart_323 (by decide) (fun h323 => ?_) (fun h323 => ?_)
  · refine ee_pick [0, 1, 2, 3] rfl ?_
    exact t_fD_readPart_337 _ _ _ _ w
  · refine ee_iload 4 dD_readPart_326 rfl ?_
    refine ee_if_ne (tgt := 337) dD_readPart_328 (by decide) (fun h328 => ?_) (fun h328 => ?_)
    · refine ee_pick [0, 1, 2, 3] rfl ?_
      exact t_fD_readPart_337 _ _ _ _ w
    · refine ee_aload_n 0 dD_readPart_331 rfl ?_
      refine ee_iload 3 dD_readPart_332 rfl ?_
      refine ee_bind (fun _ ho334 => ?_)
      refine ee_callV (as := [.int l6]) (st := []) dD_readPart_334 (t_fD_forget l0 l6 w) my_fD_forget.1 (Nat.le_of_ble_eq_true rfl) my_fD_forget.2 rfl cf_10.1 rfl (p_obj_eq.mp ho334) gw_1582 gw_1584 gw_51 ⟨Nat.le_of_ble_eq_true rfl, Nat.le_of_ble_eq_true rfl⟩ (Nat.le_of_ble_eq_true rfl) (fun rv334 w334 _ => ?_)
      refine ee_kV ?_
      refine ee_pick [0, 1, 2, 3] rfl ?_
      exact t_fD_readPart_337 _ _ _ _ w334
def fD_readPart_285 (l0 : Nat) (l3 : Int32) (l4 : Int32) (l5 : Int32) (l6 : Int32) (l7 : Int32) (s0 : Int32) (s1 : Int32) (s2 : Int32) (s3 : Int32) (s4 : Nat) (w : PW) : PX := (p_obj w s4 10).bind fun _ => p_call (fD_headOf s4 s3 s2 s1 s0 w) <| p_kI fun v285 w285 => if ¬ v285 = (-1 : Int32) then ((p_obj w285 l0 10).bind fun _ => p_call (fD_takePackets l0 l3 v285 l5 l4 w285) <| p_kV fun w314 => fD_readPart_317 l0 l3 l5 l6 l7 w314) else ((p_getR w285 l0 10 36).bind fun v297 => (p_ast w285 v297 2 l3 (vp_nar .boolean (1 : Int32))).bind fun w302 => fD_readPart_317 l0 l3 l5 l6 l7 w302)
set_option maxRecDepth 20000 in
set_option maxHeartbeats 2000000 in
theorem t_fD_readPart_285 {Γ : PG} : ∀ (l0 : Nat) (l3 : Int32) (l4 : Int32) (l5 : Int32) (l6 : Int32) (l7 : Int32) (s0 : Int32) (s1 : Int32) (s2 : Int32) (s3 : Int32) (s4 : Nat) (w : PW), EE Γ MD_readPart 285 [(0, .ref l0), (3, .int l3), (4, .int l4), (5, .int l5), (6, .int l6), (7, .int l7)] [.int s0, .int s1, .int s2, .int s3, .ref s4] w (fD_readPart_285 l0 l3 l4 l5 l6 l7 s0 s1 s2 s3 s4 w) := by
  intro l0 l3 l4 l5 l6 l7 s0 s1 s2 s3 s4 w
  unfold fD_readPart_285
  refine ee_bind (fun _ ho285 => ?_)
  refine ee_callV (as := [.int s3, .int s2, .int s1, .int s0]) (st := []) dD_readPart_285 (t_fD_headOf s4 s3 s2 s1 s0 w) my_fD_headOf.1 (Nat.le_of_ble_eq_true rfl) my_fD_headOf.2 rfl cf_10.1 rfl (p_obj_eq.mp ho285) gw_1569 gw_1571 gw_48 ⟨Nat.le_of_ble_eq_true rfl, Nat.le_of_ble_eq_true rfl⟩ (Nat.le_of_ble_eq_true rfl) (fun rv285 w285 _ => ?_)
  refine ee_kI (fun v285 => ?_)
  refine ee_istore (lv2 := [(8, .int v285), (0, .ref l0), (3, .int l3), (4, .int l4), (5, .int l5), (6, .int l6), (7, .int l7)]) dD_readPart_288 (Nat.le_of_ble_eq_true rfl) rfl ?_
  refine ee_iload 0 dD_readPart_290 rfl ?_
  refine ee_iconst (v := (-1 : Int32)) dD_readPart_292 (by decide) ?_
  refine ee_icmp_ne (tgt := 306) dD_readPart_293 (by decide) (fun h293 => ?_) (fun h293 => ?_)
  · refine ee_aload_n 1 dD_readPart_306 rfl ?_
    refine ee_iload_n 2 dD_readPart_307 rfl ?_
    refine ee_iload 0 dD_readPart_308 rfl ?_
    refine ee_iload 4 dD_readPart_310 rfl ?_
    refine ee_iload 3 dD_readPart_312 rfl ?_
    refine ee_bind (fun _ ho314 => ?_)
    refine ee_callV (as := [.int l3, .int v285, .int l5, .int l4]) (st := []) dD_readPart_314 (t_fD_takePackets l0 l3 v285 l5 l4 w285) my_fD_takePackets.1 (Nat.le_of_ble_eq_true rfl) my_fD_takePackets.2 rfl cf_10.1 rfl (p_obj_eq.mp ho314) gw_1578 gw_1580 gw_50 ⟨Nat.le_of_ble_eq_true rfl, Nat.le_of_ble_eq_true rfl⟩ (Nat.le_of_ble_eq_true rfl) (fun rv314 w314 _ => ?_)
    refine ee_kV ?_
    refine ee_pick [1, 2, 4, 5, 6] rfl ?_
    exact t_fD_readPart_317 _ _ _ _ _ w314
  · refine ee_aload_n 1 dD_readPart_296 rfl ?_
    refine ee_getR dD_readPart_297 lfD_84 (fun v297 _ => ?_)
    refine ee_iload_n 2 dD_readPart_300 rfl ?_
    refine ee_iconst (v := (1 : Int32)) dD_readPart_301 (by decide) ?_
    refine ee_zast (t := 2) dD_readPart_302 rfl (fun w302 _ => ?_)
    refine ee_goto (tgt := 317) dD_readPart_303 (by decide) ?_
    refine ee_pick [1, 2, 4, 5, 6] rfl ?_
    exact t_fD_readPart_317 _ _ _ _ _ w302
def fD_readPart_253 (l0 : Nat) (l3 : Int32) (l4 : Int32) (l5 : Int32) (l6 : Int32) (l7 : Int32) (s0 : Int32) (s1 : Int32) (s2 : Nat) (w : PW) : PX := (p_ast w s2 2 s1 (vp_nar .boolean s0)).bind fun w253 => (p_getR w253 l0 10 36).bind fun v255 => (p_ald w253 v255 2 l3).bind fun v259 => if ¬ v259 = 0 then (fD_readPart_361 l0 l3 l5 l6 w253) else ((p_getI w253 l0 10 39).bind fun v265 => if ¬ l7 = 0 then (fD_readPart_285 l0 l3 l4 l5 l6 l7 (0 : Int32) l6 l5 (v265 + (12 : Int32)) l0 w253) else (fD_readPart_285 l0 l3 l4 l5 l6 l7 (1 : Int32) l6 l5 (v265 + (12 : Int32)) l0 w253))
set_option maxRecDepth 20000 in
set_option maxHeartbeats 2000000 in
theorem t_fD_readPart_253 {Γ : PG} : ∀ (l0 : Nat) (l3 : Int32) (l4 : Int32) (l5 : Int32) (l6 : Int32) (l7 : Int32) (s0 : Int32) (s1 : Int32) (s2 : Nat) (w : PW), EE Γ MD_readPart 253 [(0, .ref l0), (3, .int l3), (4, .int l4), (5, .int l5), (6, .int l6), (7, .int l7)] [.int s0, .int s1, .ref s2] w (fD_readPart_253 l0 l3 l4 l5 l6 l7 s0 s1 s2 w) := by
  intro l0 l3 l4 l5 l6 l7 s0 s1 s2 w
  unfold fD_readPart_253
  refine ee_zast (t := 2) dD_readPart_253 rfl (fun w253 _ => ?_)
  refine ee_aload_n 0 dD_readPart_254 rfl ?_
  refine ee_getR dD_readPart_255 lfD_84 (fun v255 _ => ?_)
  refine ee_iload_n 1 dD_readPart_258 rfl ?_
  refine ee_zald (t := 2) dD_readPart_259 rfl (fun v259 _ => ?_)
  refine ee_if_ne (tgt := 361) dD_readPart_260 (by decide) (fun h260 => ?_) (fun h260 => ?_)
  · refine ee_pick [0, 1, 3, 4] rfl ?_
    exact t_fD_readPart_361 _ _ _ _ w253
  · refine ee_aload_n 0 dD_readPart_263 rfl ?_
    refine ee_aload_n 0 dD_readPart_264 rfl ?_
    refine ee_getI dD_readPart_265 lfD_301 (fun v265 _ => ?_)
    refine ee_bipush (v := (12 : Int32)) dD_readPart_268 (by decide) ?_
    refine ee_iadd dD_readPart_270 ?_
    refine ee_iload 3 dD_readPart_271 rfl ?_
    refine ee_iload 4 dD_readPart_273 rfl ?_
    refine ee_iload 5 dD_readPart_275 rfl ?_
    refine ee_if_ne (tgt := 284) dD_readPart_277 (by decide) (fun h277 => ?_) (fun h277 => ?_)
    · refine ee_iconst (v := (0 : Int32)) dD_readPart_284 (by decide) ?_
      exact t_fD_readPart_285 _ _ _ _ _ _ _ _ _ _ _ w253
    · refine ee_iconst (v := (1 : Int32)) dD_readPart_280 (by decide) ?_
      refine ee_goto (tgt := 285) dD_readPart_281 (by decide) ?_
      exact t_fD_readPart_285 _ _ _ _ _ _ _ _ _ _ _ w253
def fD_readPart_221 (l0 : Nat) (l3 : Int32) (l4 : Int32) (l5 : Int32) (l6 : Int32) (l7 : Int32) (s0 : Int32) (s1 : Int32) (s2 : Nat) (w : PW) : PX := (p_ast w s2 2 s1 (vp_nar .boolean s0)).bind fun w221 => (p_getR w221 l0 10 36).bind fun v223 => (p_getR w221 l0 10 36).bind fun v228 => (p_ald w221 v228 2 l3).bind fun v232 => if ¬ v232 = 0 then (fD_readPart_253 l0 l3 l4 l5 l6 l7 (1 : Int32) l3 v223 w221) else ((p_getR w221 l0 10 38).bind fun v239 => (p_ald w221 v239 0 l6).bind fun v244 => if l7 = v244 then (fD_readPart_253 l0 l3 l4 l5 l6 l7 (0 : Int32) l3 v223 w221) else (fD_readPart_253 l0 l3 l4 l5 l6 l7 (1 : Int32) l3 v223 w221))
set_option maxRecDepth 20000 in
set_option maxHeartbeats 2000000 in
theorem t_fD_readPart_221 {Γ : PG} : ∀ (l0 : Nat) (l3 : Int32) (l4 : Int32) (l5 : Int32) (l6 : Int32) (l7 : Int32) (s0 : Int32) (s1 : Int32) (s2 : Nat) (w : PW), EE Γ MD_readPart 221 [(0, .ref l0), (3, .int l3), (4, .int l4), (5, .int l5), (6, .int l6), (7, .int l7)] [.int s0, .int s1, .ref s2] w (fD_readPart_221 l0 l3 l4 l5 l6 l7 s0 s1 s2 w) := by
  intro l0 l3 l4 l5 l6 l7 s0 s1 s2 w
  unfold fD_readPart_221
  refine ee_zast (t := 2) dD_readPart_221 rfl (fun w221 _ => ?_)
  refine ee_aload_n 0 dD_readPart_222 rfl ?_
  refine ee_getR dD_readPart_223 lfD_84 (fun v223 _ => ?_)
  refine ee_iload_n 1 dD_readPart_226 rfl ?_
  refine ee_aload_n 0 dD_readPart_227 rfl ?_
  refine ee_getR dD_readPart_228 lfD_84 (fun v228 _ => ?_)
  refine ee_iload_n 1 dD_readPart_231 rfl ?_
  refine ee_zald (t := 2) dD_readPart_232 rfl (fun v232 _ => ?_)
  refine ee_if_ne (tgt := 248) dD_readPart_233 (by decide) (fun h233 => ?_) (fun h233 => ?_)
  · refine ee_iconst (v := (1 : Int32)) dD_readPart_248 (by decide) ?_
    refine ee_goto (tgt := 253) dD_readPart_249 (by decide) ?_
    exact t_fD_readPart_253 _ _ _ _ _ _ _ _ _ w221
  · refine ee_iload 5 dD_readPart_236 rfl ?_
    refine ee_aload_n 0 dD_readPart_238 rfl ?_
    refine ee_getR dD_readPart_239 lfD_90 (fun v239 _ => ?_)
    refine ee_iload 4 dD_readPart_242 rfl ?_
    refine ee_iald (t := 0) dD_readPart_244 rfl (fun v244 _ => ?_)
    refine ee_icmp_eq (tgt := 252) dD_readPart_245 (by decide) (fun h245 => ?_) (fun h245 => ?_)
    · refine ee_iconst (v := (0 : Int32)) dD_readPart_252 (by decide) ?_
      exact t_fD_readPart_253 _ _ _ _ _ _ _ _ _ w221
    · refine ee_iconst (v := (1 : Int32)) dD_readPart_248 (by decide) ?_
      refine ee_goto (tgt := 253) dD_readPart_249 (by decide) ?_
      exact t_fD_readPart_253 _ _ _ _ _ _ _ _ _ w221
def fD_readPart_126 (l0 : Nat) (l3 : Int32) (l4 : Int32) (s0 : Int32) (w : PW) : PX := (p_getI w l0 10 39).bind fun v130 => (p_obj w l0 10).bind fun _ => p_call (fD_two l0 (v130 + (4 : Int32)) w) <| p_kI fun v135 w135 => (p_getR w135 l0 10 23).bind fun v141 => (p_getI w135 l0 10 39).bind fun v145 => (p_ald w135 v141 0 (v145 + (10 : Int32))).bind fun v151 => (p_getR w135 l0 10 32).bind fun v155 => (p_getI w135 l0 10 39).bind fun v160 => (p_ast w135 v155 0 l3 v160).bind fun w163 => (p_getR w163 l0 10 37).bind fun v165 => (p_ast w163 v165 2 l3 (vp_nar .boolean l4)).bind fun w171 => (p_getR w171 l0 10 34).bind fun v173 => (p_ast w171 v173 0 l3 (0 : Int32)).bind fun w178 => (p_getR w178 l0 10 35).bind fun v180 => (p_ast w178 v180 0 l3 (0 : Int32)).bind fun w185 => (p_getR w185 l0 10 36).bind fun v187 => (p_getI w185 l0 10 39).bind fun v193 => (p_obj w185 l0 10).bind fun _ => p_call (fD_two l0 (v193 + (2 : Int32)) w185) <| p_kI fun v198 w198 => if ¬ v198 = (10 : Int32) then (fD_readPart_221 l0 l3 l4 s0 v135 v151 (1 : Int32) l3 v187 w198) else ((p_obj w198 l0 10).bind fun _ => p_call (fD_tiles l0 (5 : Int32) w198) <| p_kI fun v210 w210 => if v135 < v210 then (fD_readPart_221 l0 l3 l4 s0 v135 v151 (0 : Int32) l3 v187 w210) else (fD_readPart_221 l0 l3 l4 s0 v135 v151 (1 : Int32) l3 v187 w210))
set_option maxRecDepth 20000 in
set_option maxHeartbeats 2000000 in
theorem t_fD_readPart_126 {Γ : PG} : ∀ (l0 : Nat) (l3 : Int32) (l4 : Int32) (s0 : Int32) (w : PW), EE Γ MD_readPart 126 [(0, .ref l0), (3, .int l3), (4, .int l4)] [.int s0] w (fD_readPart_126 l0 l3 l4 s0 w) := by
  intro l0 l3 l4 s0 w
  unfold fD_readPart_126
  refine ee_istore (lv2 := [(5, .int s0), (0, .ref l0), (3, .int l3), (4, .int l4)]) dD_readPart_126 (Nat.le_of_ble_eq_true rfl) rfl ?_
  refine ee_aload_n 1 dD_readPart_128 rfl ?_
  refine ee_aload_n 1 dD_readPart_129 rfl ?_
  refine ee_getI dD_readPart_130 lfD_301 (fun v130 _ => ?_)
  refine ee_iconst (v := (4 : Int32)) dD_readPart_133 (by decide) ?_
  refine ee_iadd dD_readPart_134 ?_
  refine ee_bind (fun _ ho135 => ?_)
  refine ee_callV (as := [.int (v130 + (4 : Int32))]) (st := []) dD_readPart_135 (t_fD_two l0 (v130 + (4 : Int32)) w) my_fD_two.1 (Nat.le_of_ble_eq_true rfl) my_fD_two.2 rfl cf_10.1 rfl (p_obj_eq.mp ho135) gw_1540 gw_1542 gw_42 ⟨Nat.le_of_ble_eq_true rfl, Nat.le_of_ble_eq_true rfl⟩ (Nat.le_of_ble_eq_true rfl) (fun rv135 w135 _ => ?_)
  refine ee_kI (fun v135 => ?_)
  refine ee_istore (lv2 := [(6, .int v135), (5, .int s0), (0, .ref l0), (3, .int l3), (4, .int l4)]) dD_readPart_138 (Nat.le_of_ble_eq_true rfl) rfl ?_
  refine ee_aload_n 2 dD_readPart_140 rfl ?_
  refine ee_getR dD_readPart_141 lfD_60 (fun v141 _ => ?_)
  refine ee_aload_n 2 dD_readPart_144 rfl ?_
  refine ee_getI dD_readPart_145 lfD_301 (fun v145 _ => ?_)
  refine ee_bipush (v := (10 : Int32)) dD_readPart_148 (by decide) ?_
  refine ee_iadd dD_readPart_150 ?_
  refine ee_iald (t := 0) dD_readPart_151 rfl (fun v151 _ => ?_)
  refine ee_istore (lv2 := [(7, .int v151), (6, .int v135), (5, .int s0), (0, .ref l0), (3, .int l3), (4, .int l4)]) dD_readPart_152 (Nat.le_of_ble_eq_true rfl) rfl ?_
  refine ee_aload_n 3 dD_readPart_154 rfl ?_
  refine ee_getR dD_readPart_155 lfD_72 (fun v155 _ => ?_)
  refine ee_iload_n 4 dD_readPart_158 rfl ?_
  refine ee_aload_n 3 dD_readPart_159 rfl ?_
  refine ee_getI dD_readPart_160 lfD_301 (fun v160 _ => ?_)
  refine ee_iast (t := 0) dD_readPart_163 rfl (fun w163 _ => ?_)
  refine ee_aload_n 3 dD_readPart_164 rfl ?_
  refine ee_getR dD_readPart_165 lfD_87 (fun v165 _ => ?_)
  refine ee_iload_n 4 dD_readPart_168 rfl ?_
  refine ee_iload 5 dD_readPart_169 rfl ?_
  refine ee_zast (t := 2) dD_readPart_171 rfl (fun w171 _ => ?_)
  refine ee_aload_n 3 dD_readPart_172 rfl ?_
  refine ee_getR dD_readPart_173 lfD_78 (fun v173 _ => ?_)
  refine ee_iload_n 4 dD_readPart_176 rfl ?_
  refine ee_iconst (v := (0 : Int32)) dD_readPart_177 (by decide) ?_
  refine ee_iast (t := 0) dD_readPart_178 rfl (fun w178 _ => ?_)
  refine ee_aload_n 3 dD_readPart_179 rfl ?_
  refine ee_getR dD_readPart_180 lfD_81 (fun v180 _ => ?_)
  refine ee_iload_n 4 dD_readPart_183 rfl ?_
  refine ee_iconst (v := (0 : Int32)) dD_readPart_184 (by decide) ?_
  refine ee_iast (t := 0) dD_readPart_185 rfl (fun w185 _ => ?_)
  refine ee_aload_n 3 dD_readPart_186 rfl ?_
  refine ee_getR dD_readPart_187 lfD_84 (fun v187 _ => ?_)
  refine ee_iload_n 4 dD_readPart_190 rfl ?_
  refine ee_aload_n 3 dD_readPart_191 rfl ?_
  refine ee_aload_n 3 dD_readPart_192 rfl ?_
  refine ee_getI dD_readPart_193 lfD_301 (fun v193 _ => ?_)
  refine ee_iconst (v := (2 : Int32)) dD_readPart_196 (by decide) ?_
  refine ee_iadd dD_readPart_197 ?_
  refine ee_bind (fun _ ho198 => ?_)
  refine ee_callV (as := [.int (v193 + (2 : Int32))]) (st := [.int l3, .ref v187]) dD_readPart_198 (t_fD_two l0 (v193 + (2 : Int32)) w185) my_fD_two.1 (Nat.le_of_ble_eq_true rfl) my_fD_two.2 rfl cf_10.1 rfl (p_obj_eq.mp ho198) gw_1540 gw_1542 gw_42 ⟨Nat.le_of_ble_eq_true rfl, Nat.le_of_ble_eq_true rfl⟩ (Nat.le_of_ble_eq_true rfl) (fun rv198 w198 _ => ?_)
  refine ee_kI (fun v198 => ?_)
  refine ee_bipush (v := (10 : Int32)) dD_readPart_201 (by decide) ?_
  refine ee_icmp_ne (tgt := 216) dD_readPart_203 (by decide) (fun h203 => ?_) (fun h203 => ?_)
  · refine ee_iconst (v := (1 : Int32)) dD_readPart_216 (by decide) ?_
    refine ee_goto (tgt := 221) dD_readPart_217 (by decide) ?_
    refine ee_pick [3, 4, 5, 2, 1, 0] rfl ?_
    exact t_fD_readPart_221 _ _ _ _ _ _ _ _ _ w198
  · refine ee_iload 1 dD_readPart_206 rfl ?_
    refine ee_aload_n 3 dD_readPart_208 rfl ?_
    refine ee_iconst (v := (5 : Int32)) dD_readPart_209 (by decide) ?_
    refine ee_bind (fun _ ho210 => ?_)
    refine ee_callV (as := [.int (5 : Int32)]) (st := [.int v135, .int l3, .ref v187]) dD_readPart_210 (t_fD_tiles l0 (5 : Int32) w198) my_fD_tiles.1 (Nat.le_of_ble_eq_true rfl) my_fD_tiles.2 rfl cf_10.1 rfl (p_obj_eq.mp ho210) gw_1324 gw_1326 gw_11 ⟨Nat.le_of_ble_eq_true rfl, Nat.le_of_ble_eq_true rfl⟩ (Nat.le_of_ble_eq_true rfl) (fun rv210 w210 _ => ?_)
    refine ee_kI (fun v210 => ?_)
    refine ee_icmp_lt (tgt := 220) dD_readPart_213 (by decide) (fun h213 => ?_) (fun h213 => ?_)
    · refine ee_iconst (v := (0 : Int32)) dD_readPart_220 (by decide) ?_
      refine ee_pick [3, 4, 5, 2, 1, 0] rfl ?_
      exact t_fD_readPart_221 _ _ _ _ _ _ _ _ _ w210
    · refine ee_iconst (v := (1 : Int32)) dD_readPart_216 (by decide) ?_
      refine ee_goto (tgt := 221) dD_readPart_217 (by decide) ?_
      refine ee_pick [3, 4, 5, 2, 1, 0] rfl ?_
      exact t_fD_readPart_221 _ _ _ _ _ _ _ _ _ w210
def fD_readPart_98 (l0 : Nat) (l1 : Int64) (l3 : Int32) (s0 : Int32) (w : PW) : PX := if (lg_cmp l1 (0 : Int64)) = 0 then ((p_getI w l0 10 40).bind fun v112 => fD_readPart_126 l0 l3 s0 v112 w) else (if s0 = 0 then ((p_getI w l0 10 39).bind fun v119 => fD_readPart_126 l0 l3 s0 (Int64.toInt32 ((Int32.toInt64 v119) + l1)) w) else ((p_getI w l0 10 40).bind fun v112 => fD_readPart_126 l0 l3 s0 v112 w))
set_option maxRecDepth 20000 in
set_option maxHeartbeats 2000000 in
theorem t_fD_readPart_98 {Γ : PG} : ∀ (l0 : Nat) (l1 : Int64) (l3 : Int32) (s0 : Int32) (w : PW), EE Γ MD_readPart 98 [(0, .ref l0), (1, .long l1), (3, .int l3)] [.int s0] w (fD_readPart_98 l0 l1 l3 s0 w) := by
  intro l0 l1 l3 s0 w
  unfold fD_readPart_98
  refine ee_istore (lv2 := [(4, .int s0), (0, .ref l0), (1, .long l1), (3, .int l3)]) dD_readPart_98 (Nat.le_of_ble_eq_true rfl) rfl ?_
  refine ee_lload_n 2 dD_readPart_100 rfl ?_
  refine ee_lconst (v := (0 : Int64)) dD_readPart_101 (by decide) ?_
  refine ee_lcmp dD_readPart_102 ?_
  refine ee_if_eq (tgt := 111) dD_readPart_103 (by decide) (fun h103 => ?_) (fun h103 => ?_)
  · refine ee_aload_n 1 dD_readPart_111 rfl ?_
    refine ee_getI dD_readPart_112 lfD_304 (fun v112 _ => ?_)
    refine ee_goto (tgt := 126) dD_readPart_115 (by decide) ?_
    refine ee_pick [1, 3, 0] rfl ?_
    exact t_fD_readPart_126 _ _ _ _ w
  · refine ee_iload 0 dD_readPart_106 rfl ?_
    refine ee_if_eq (tgt := 118) dD_readPart_108 (by decide) (fun h108 => ?_) (fun h108 => ?_)
    · refine ee_aload_n 1 dD_readPart_118 rfl ?_
      refine ee_getI dD_readPart_119 lfD_301 (fun v119 _ => ?_)
      refine ee_i2l dD_readPart_122 ?_
      refine ee_lload_n 2 dD_readPart_123 rfl ?_
      refine ee_ladd dD_readPart_124 ?_
      refine ee_l2i dD_readPart_125 ?_
      refine ee_pick [1, 3, 0] rfl ?_
      exact t_fD_readPart_126 _ _ _ _ w
    · refine ee_aload_n 1 dD_readPart_111 rfl ?_
      refine ee_getI dD_readPart_112 lfD_304 (fun v112 _ => ?_)
      refine ee_goto (tgt := 126) dD_readPart_115 (by decide) ?_
      refine ee_pick [1, 3, 0] rfl ?_
      exact t_fD_readPart_126 _ _ _ _ w
def fD_readPart_72 (l0 : Nat) (l1 : Int64) (w : PW) : PX := (p_getI w l0 10 30).bind fun v73 => (p_getI w l0 10 39).bind fun v78 => (p_getI w l0 10 40).bind fun v85 => if (lg_cmp ((Int32.toInt64 v78) + l1) (Int32.toInt64 v85)) ≤ 0 then (fD_readPart_98 l0 l1 v73 (0 : Int32) w) else (fD_readPart_98 l0 l1 v73 (1 : Int32) w)
set_option maxRecDepth 20000 in
set_option maxHeartbeats 2000000 in
theorem t_fD_readPart_72 {Γ : PG} : ∀ (l0 : Nat) (l1 : Int64) (w : PW), EE Γ MD_readPart 72 [(0, .ref l0), (1, .long l1)] [] w (fD_readPart_72 l0 l1 w) := by
  intro l0 l1 w
  unfold fD_readPart_72
  refine ee_aload_n 0 dD_readPart_72 rfl ?_
  refine ee_getI dD_readPart_73 lfD_349 (fun v73 _ => ?_)
  refine ee_istore_n (lv2 := [(3, .int v73), (0, .ref l0), (1, .long l1)]) dD_readPart_76 (Nat.le_of_ble_eq_true rfl) rfl ?_
  refine ee_aload_n 1 dD_readPart_77 rfl ?_
  refine ee_getI dD_readPart_78 lfD_301 (fun v78 _ => ?_)
  refine ee_i2l dD_readPart_81 ?_
  refine ee_lload_n 2 dD_readPart_82 rfl ?_
  refine ee_ladd dD_readPart_83 ?_
  refine ee_aload_n 1 dD_readPart_84 rfl ?_
  refine ee_getI dD_readPart_85 lfD_304 (fun v85 _ => ?_)
  refine ee_i2l dD_readPart_88 ?_
  refine ee_lcmp dD_readPart_89 ?_
  refine ee_if_le (tgt := 97) dD_readPart_90 (by decide) (fun h90 => ?_) (fun h90 => ?_)
  · refine ee_iconst (v := (0 : Int32)) dD_readPart_97 (by decide) ?_
    refine ee_pick [1, 2, 0] rfl ?_
    exact t_fD_readPart_98 _ _ _ _ w
  · refine ee_iconst (v := (1 : Int32)) dD_readPart_93 (by decide) ?_
    refine ee_goto (tgt := 98) dD_readPart_94 (by decide) ?_
    refine ee_pick [1, 2, 0] rfl ?_
    exact t_fD_readPart_98 _ _ _ _ w
def fD_readPart (l0 : Nat) (w : PW) : PX := (p_getI w l0 10 40).bind fun v1 => (p_getI w l0 10 39).bind fun v5 => if (v1 - v5) < (12 : Int32) then (p_retZ (0 : Int32) w) else ((p_getI w l0 10 39).bind fun v16 => (p_getI w l0 10 40).bind fun v20 => (p_obj w l0 10).bind fun _ => p_call (fD_isMark l0 v16 v20 (144 : Int32) w) <| p_kI fun v26 w26 => if v26 = 0 then (p_retZ (0 : Int32) w26) else ((p_getI w26 l0 10 30).bind fun v33 => if ¬ v33 = (300 : Int32) then ((p_getI w26 l0 10 39).bind fun v46 => (p_obj w26 l0 10).bind fun _ => p_call (fD_four l0 (v46 + (6 : Int32)) w26) <| p_kJ fun v52 w52 => if (lg_cmp v52 (0 : Int64)) = 0 then (fD_readPart_72 l0 v52 w52) else (if 0 ≤ (lg_cmp v52 (14 : Int64)) then (fD_readPart_72 l0 v52 w52) else (p_retZ (0 : Int32) w52))) else (p_retZ (0 : Int32) w26)))
set_option maxRecDepth 20000 in
set_option maxHeartbeats 2000000 in
theorem t_fD_readPart {Γ : PG} : ∀ (l0 : Nat) (w : PW), EE Γ MD_readPart 0 (lv_args 0 [.ref l0]) [] w (fD_readPart l0 w) := by
  intro l0 w
  unfold fD_readPart
  show EE Γ MD_readPart 0 [(0, .ref l0)] [] w _
  refine ee_aload_n 0 dD_readPart_0 rfl ?_
  refine ee_getI dD_readPart_1 lfD_304 (fun v1 _ => ?_)
  refine ee_aload_n 0 dD_readPart_4 rfl ?_
  refine ee_getI dD_readPart_5 lfD_301 (fun v5 _ => ?_)
  refine ee_isub dD_readPart_8 ?_
  refine ee_bipush (v := (12 : Int32)) dD_readPart_9 (by decide) ?_
  refine ee_icmp_lt (tgt := 42) dD_readPart_11 (by decide) (fun h11 => ?_) (fun h11 => ?_)
  · refine ee_iconst (v := (0 : Int32)) dD_readPart_42 (by decide) ?_
    exact ee_zret rfl dD_readPart_43
  · refine ee_aload_n 0 dD_readPart_14 rfl ?_
    refine ee_aload_n 0 dD_readPart_15 rfl ?_
    refine ee_getI dD_readPart_16 lfD_301 (fun v16 _ => ?_)
    refine ee_aload_n 0 dD_readPart_19 rfl ?_
    refine ee_getI dD_readPart_20 lfD_304 (fun v20 _ => ?_)
    refine ee_sipush (v := (144 : Int32)) dD_readPart_23 (by decide) ?_
    refine ee_bind (fun _ ho26 => ?_)
    refine ee_callV (as := [.int v16, .int v20, .int (144 : Int32)]) (st := []) dD_readPart_26 (t_fD_isMark l0 v16 v20 (144 : Int32) w) my_fD_isMark.1 (Nat.le_of_ble_eq_true rfl) my_fD_isMark.2 rfl cf_10.1 rfl (p_obj_eq.mp ho26) gw_1487 gw_1489 gw_31 ⟨Nat.le_of_ble_eq_true rfl, Nat.le_of_ble_eq_true rfl⟩ (Nat.le_of_ble_eq_true rfl) (fun rv26 w26 _ => ?_)
    refine ee_kI (fun v26 => ?_)
    refine ee_if_eq (tgt := 42) dD_readPart_29 (by decide) (fun h29 => ?_) (fun h29 => ?_)
    · refine ee_iconst (v := (0 : Int32)) dD_readPart_42 (by decide) ?_
      exact ee_zret rfl dD_readPart_43
    · refine ee_aload_n 0 dD_readPart_32 rfl ?_
      refine ee_getI dD_readPart_33 lfD_349 (fun v33 _ => ?_)
      refine ee_sipush (v := (300 : Int32)) dD_readPart_36 (by decide) ?_
      refine ee_icmp_ne (tgt := 44) dD_readPart_39 (by decide) (fun h39 => ?_) (fun h39 => ?_)
      · refine ee_aload_n 0 dD_readPart_44 rfl ?_
        refine ee_aload_n 0 dD_readPart_45 rfl ?_
        refine ee_getI dD_readPart_46 lfD_301 (fun v46 _ => ?_)
        refine ee_bipush (v := (6 : Int32)) dD_readPart_49 (by decide) ?_
        refine ee_iadd dD_readPart_51 ?_
        refine ee_bind (fun _ ho52 => ?_)
        refine ee_callV (as := [.int (v46 + (6 : Int32))]) (st := []) dD_readPart_52 (t_fD_four l0 (v46 + (6 : Int32)) w26) my_fD_four.1 (Nat.le_of_ble_eq_true rfl) my_fD_four.2 rfl cf_10.1 rfl (p_obj_eq.mp ho52) gw_1499 gw_1501 gw_34 ⟨Nat.le_of_ble_eq_true rfl, Nat.le_of_ble_eq_true rfl⟩ (Nat.le_of_ble_eq_true rfl) (fun rv52 w52 _ => ?_)
        refine ee_kJ (fun v52 => ?_)
        refine ee_lstore_n (lv2 := [(1, .long v52), (0, .ref l0)]) dD_readPart_55 (Nat.le_of_ble_eq_true rfl) rfl ?_
        refine ee_lload_n 0 dD_readPart_56 rfl ?_
        refine ee_lconst (v := (0 : Int64)) dD_readPart_57 (by decide) ?_
        refine ee_lcmp dD_readPart_58 ?_
        refine ee_if_eq (tgt := 72) dD_readPart_59 (by decide) (fun h59 => ?_) (fun h59 => ?_)
        · refine ee_pick [1, 0] rfl ?_
          exact t_fD_readPart_72 _ _ w52
        · refine ee_lload_n 0 dD_readPart_62 rfl ?_
          refine ee_ldc2 (v := (14 : Int64)) dD_readPart_63 gw_1568 ?_
          refine ee_lcmp dD_readPart_66 ?_
          refine ee_if_ge (tgt := 72) dD_readPart_67 (by decide) (fun h67 => ?_) (fun h67 => ?_)
          · refine ee_pick [1, 0] rfl ?_
            exact t_fD_readPart_72 _ _ w52
          · refine ee_iconst (v := (0 : Int32)) dD_readPart_70 (by decide) ?_
            exact ee_zret rfl dD_readPart_71
      · refine ee_iconst (v := (0 : Int32)) dD_readPart_42 (by decide) ?_
        exact ee_zret rfl dD_readPart_43
def fD_readStream_32 : Nat → Nat → Int32 → PW → PX
  | 0, _, _, _ => none
  | n9 + 1, l0, l1, w => if l1 = 0 then (p_retZ (1 : Int32) w) else ((p_getI w l0 10 39).bind fun v38 => (p_getI w l0 10 40).bind fun v42 => (p_obj w l0 10).bind fun _ => p_call (fD_isMark l0 v38 v42 (217 : Int32) w) <| p_kI fun v48 w48 => if ¬ v48 = 0 then (p_retZ (1 : Int32) w48) else ((p_obj w48 l0 10).bind fun _ => p_call (fD_readPart l0 w48) <| p_kI fun v55 w55 => (fD_readStream_32 n9) l0 v55 w55))
set_option maxRecDepth 20000 in
set_option maxHeartbeats 2000000 in
theorem t_fD_readStream_32 {Γ : PG} : ∀ (n9 : Nat) (l0 : Nat) (l1 : Int32) (w : PW), EE Γ MD_readStream 32 [(0, .ref l0), (1, .int l1)] [] w (fD_readStream_32 n9 l0 l1 w) := by
  intro n9
  induction n9 with
  | zero => intro l0 l1 w; exact ee_none
  | succ n9 ih =>
    intro l0 l1 w
    unfold fD_readStream_32
    refine ee_iload_n 1 dD_readStream_32 rfl ?_
    refine ee_if_eq (tgt := 62) dD_readStream_33 (by decide) (fun h33 => ?_) (fun h33 => ?_)
    · refine ee_iconst (v := (1 : Int32)) dD_readStream_62 (by decide) ?_
      exact ee_zret rfl dD_readStream_63
    · refine ee_aload_n 0 dD_readStream_36 rfl ?_
      refine ee_aload_n 0 dD_readStream_37 rfl ?_
      refine ee_getI dD_readStream_38 lfD_301 (fun v38 _ => ?_)
      refine ee_aload_n 0 dD_readStream_41 rfl ?_
      refine ee_getI dD_readStream_42 lfD_304 (fun v42 _ => ?_)
      refine ee_sipush (v := (217 : Int32)) dD_readStream_45 (by decide) ?_
      refine ee_bind (fun _ ho48 => ?_)
      refine ee_callV (as := [.int v38, .int v42, .int (217 : Int32)]) (st := []) dD_readStream_48 (t_fD_isMark l0 v38 v42 (217 : Int32) w) my_fD_isMark.1 (Nat.le_of_ble_eq_true rfl) my_fD_isMark.2 rfl cf_10.1 rfl (p_obj_eq.mp ho48) gw_1487 gw_1489 gw_31 ⟨Nat.le_of_ble_eq_true rfl, Nat.le_of_ble_eq_true rfl⟩ (Nat.le_of_ble_eq_true rfl) (fun rv48 w48 _ => ?_)
      refine ee_kI (fun v48 => ?_)
      refine ee_if_ne (tgt := 62) dD_readStream_51 (by decide) (fun h51 => ?_) (fun h51 => ?_)
      · refine ee_iconst (v := (1 : Int32)) dD_readStream_62 (by decide) ?_
        exact ee_zret rfl dD_readStream_63
      · refine ee_aload_n 0 dD_readStream_54 rfl ?_
        refine ee_bind (fun _ ho55 => ?_)
        refine ee_callV (as := []) (st := []) dD_readStream_55 (t_fD_readPart l0 w48) my_fD_readPart.1 (Nat.le_of_ble_eq_true rfl) my_fD_readPart.2 rfl cf_10.1 rfl (p_obj_eq.mp ho55) gw_1564 gw_1566 gw_47 ⟨Nat.le_of_ble_eq_true rfl, Nat.le_of_ble_eq_true rfl⟩ (Nat.le_of_ble_eq_true rfl) (fun rv55 w55 _ => ?_)
        refine ee_kI (fun v55 => ?_)
        refine ee_istore_n (lv2 := [(1, .int v55), (0, .ref l0)]) dD_readStream_58 (Nat.le_of_ble_eq_true rfl) rfl ?_
        refine ee_goto (tgt := 32) dD_readStream_59 (by decide) ?_
        refine ee_pick [1, 0] rfl ?_
        exact ih _ _ w55
def fD_readStream_11 : Nat → Nat → Int32 → PW → PX
  | 0, _, _, _ => none
  | n9 + 1, l0, l1, w => if (24 : Int32) ≤ l1 then (fD_readStream_32 FUEL l0 (1 : Int32) w) else ((p_getR w l0 10 38).bind fun v18 => (p_ast w v18 0 l1 (0 : Int32)).bind fun w23 => p_let (l1 + (1 : Int32)) fun (l1_24 : Int32) => (fD_readStream_11 n9) l0 l1_24 w23)
set_option maxRecDepth 20000 in
set_option maxHeartbeats 2000000 in
theorem t_fD_readStream_11 {Γ : PG} : ∀ (n9 : Nat) (l0 : Nat) (l1 : Int32) (w : PW), EE Γ MD_readStream 11 [(0, .ref l0), (1, .int l1)] [] w (fD_readStream_11 n9 l0 l1 w) := by
  intro n9
  induction n9 with
  | zero => intro l0 l1 w; exact ee_none
  | succ n9 ih =>
    intro l0 l1 w
    unfold fD_readStream_11
    refine ee_iload_n 1 dD_readStream_11 rfl ?_
    refine ee_bipush (v := (24 : Int32)) dD_readStream_12 (by decide) ?_
    refine ee_icmp_ge (tgt := 30) dD_readStream_14 (by decide) (fun h14 => ?_) (fun h14 => ?_)
    · refine ee_iconst (v := (1 : Int32)) dD_readStream_30 (by decide) ?_
      refine ee_istore_n (lv2 := [(1, .int (1 : Int32)), (0, .ref l0)]) dD_readStream_31 (Nat.le_of_ble_eq_true rfl) rfl ?_
      refine ee_pick [1, 0] rfl ?_
      exact t_fD_readStream_32 FUEL _ _ w
    · refine ee_aload_n 0 dD_readStream_17 rfl ?_
      refine ee_getR dD_readStream_18 lfD_90 (fun v18 _ => ?_)
      refine ee_iload_n 1 dD_readStream_21 rfl ?_
      refine ee_iconst (v := (0 : Int32)) dD_readStream_22 (by decide) ?_
      refine ee_iast (t := 0) dD_readStream_23 rfl (fun w23 _ => ?_)
      refine ee_iinc 1 dD_readStream_24 rfl (e := (1 : Int32)) (by decide) (Nat.le_of_ble_eq_true rfl) (fun l1_24 _ => ?_)
      refine ee_lv (lv2 := [(1, .int l1_24), (0, .ref l0)]) rfl ?_
      refine ee_goto (tgt := 11) dD_readStream_27 (by decide) ?_
      refine ee_pick [1, 0] rfl ?_
      exact ih _ _ w23
def fD_readStream (l0 : Nat) (w : PW) : PX := (p_obj w l0 10).bind fun _ => p_call (fD_readHead l0 w) <| p_kI fun v1 w1 => if ¬ v1 = 0 then (fD_readStream_11 FUEL l0 (0 : Int32) w1) else (p_retZ (0 : Int32) w1)
set_option maxRecDepth 20000 in
set_option maxHeartbeats 2000000 in
theorem t_fD_readStream {Γ : PG} : ∀ (l0 : Nat) (w : PW), EE Γ MD_readStream 0 (lv_args 0 [.ref l0]) [] w (fD_readStream l0 w) := by
  intro l0 w
  unfold fD_readStream
  show EE Γ MD_readStream 0 [(0, .ref l0)] [] w _
  refine ee_aload_n 0 dD_readStream_0 rfl ?_
  refine ee_bind (fun _ ho1 => ?_)
  refine ee_callV (as := []) (st := []) dD_readStream_1 (t_fD_readHead l0 w) my_fD_readHead.1 (Nat.le_of_ble_eq_true rfl) my_fD_readHead.2 rfl cf_10.1 rfl (p_obj_eq.mp ho1) gw_1532 gw_1534 gw_40 ⟨Nat.le_of_ble_eq_true rfl, Nat.le_of_ble_eq_true rfl⟩ (Nat.le_of_ble_eq_true rfl) (fun rv1 w1 _ => ?_)
  refine ee_kI (fun v1 => ?_)
  refine ee_if_ne (tgt := 9) dD_readStream_4 (by decide) (fun h4 => ?_) (fun h4 => ?_)
  · refine ee_iconst (v := (0 : Int32)) dD_readStream_9 (by decide) ?_
    refine ee_istore_n (lv2 := [(1, .int (0 : Int32)), (0, .ref l0)]) dD_readStream_10 (Nat.le_of_ble_eq_true rfl) rfl ?_
    refine ee_pick [1, 0] rfl ?_
    exact t_fD_readStream_11 FUEL _ _ w1
  · refine ee_iconst (v := (0 : Int32)) dD_readStream_7 (by decide) ?_
    exact ee_zret rfl dD_readStream_8
