def fBoxReader_boxEnd (l0 : Nat) (l1 : Int32) (l2 : Int32) (l3 : Int32) (w : PW) : PX := if (8 : Int32) ≤ (l2 - l1) then ((p_getR w l0 1 0).bind fun v11 => (p_obj w v11 2).bind fun _ => p_call (fBytes_number v11 l1 (4 : Int32) w) <| p_kJ fun v16 w16 => if ¬ (lg_cmp v16 (0 : Int64)) = 0 then (if 0 ≤ (lg_cmp v16 (8 : Int64)) then (if (lg_cmp v16 (Int32.toInt64 (l2 - l1))) ≤ 0 then (some (.inl (some (.int (l1 + (Int64.toInt32 v16)))), w16)) else (if l3 = 0 then (some (.inl (some (.int (-1 : Int32))), w16)) else ((p_obj w16 l0 1).bind fun _ => p_call (fBoxReader_kindAt l0 l1 w16) <| p_kI fun v57 w57 => if ¬ v57 = (1785737827 : Int32) then (some (.inl (some (.int (-1 : Int32))), w57)) else (some (.inl (some (.int l2)), w57))))) else (some (.inl (some (.int (-1 : Int32))), w16))) else (some (.inl (some (.int l2)), w16))) else (some (.inl (some (.int (-1 : Int32))), w))
set_option maxRecDepth 20000 in
set_option maxHeartbeats 2000000 in
theorem t_fBoxReader_boxEnd {Γ : PG} : ∀ (l0 : Nat) (l1 : Int32) (l2 : Int32) (l3 : Int32) (w : PW), EE Γ MBoxReader_boxEnd 0 (lv_args 0 [.ref l0, .int l1, .int l2, .int l3]) [] w (fBoxReader_boxEnd l0 l1 l2 l3 w) := by
  intro l0 l1 l2 l3 w
  unfold fBoxReader_boxEnd
  show EE Γ MBoxReader_boxEnd 0 [(0, .ref l0), (1, .int l1), (2, .int l2), (3, .int l3)] [] w _
  refine ee_iload_n 2 dBoxReader_boxEnd_0 rfl ?_
  refine ee_iload_n 1 dBoxReader_boxEnd_1 rfl ?_
  refine ee_isub dBoxReader_boxEnd_2 ?_
  refine ee_bipush (v := (8 : Int32)) dBoxReader_boxEnd_3 (by decide) ?_
  refine ee_icmp_ge (tgt := 10) dBoxReader_boxEnd_5 (by decide) (fun h5 => ?_) (fun h5 => ?_)
  · refine ee_aload_n 0 dBoxReader_boxEnd_10 rfl ?_
    refine ee_getR dBoxReader_boxEnd_11 lfBoxReader_31 (fun v11 _ => ?_)
    refine ee_iload_n 1 dBoxReader_boxEnd_14 rfl ?_
    refine ee_iconst (v := (4 : Int32)) dBoxReader_boxEnd_15 (by decide) ?_
    refine ee_bind (fun _ ho16 => ?_)
    refine ee_callV (as := [.int l1, .int (4 : Int32)]) (st := []) dBoxReader_boxEnd_16 (t_fBytes_number v11 l1 (4 : Int32) w) my_fBytes_number.1 (Nat.le_of_ble_eq_true rfl) my_fBytes_number.2 rfl cf_2.1 rfl (p_obj_eq.mp ho16) gw_537 gw_538 gw_539 ⟨Nat.le_of_ble_eq_true rfl, Nat.le_of_ble_eq_true rfl⟩ (Nat.le_of_ble_eq_true rfl) (fun rv16 w16 _ => ?_)
    refine ee_kJ (fun v16 => ?_)
    refine ee_lstore (lv2 := [(4, .long v16), (0, .ref l0), (1, .int l1), (2, .int l2), (3, .int l3)]) dBoxReader_boxEnd_19 (Nat.le_of_ble_eq_true rfl) rfl ?_
    refine ee_lload 0 dBoxReader_boxEnd_21 rfl ?_
    refine ee_lconst (v := (0 : Int64)) dBoxReader_boxEnd_23 (by decide) ?_
    refine ee_lcmp dBoxReader_boxEnd_24 ?_
    refine ee_if_ne (tgt := 30) dBoxReader_boxEnd_25 (by decide) (fun h25 => ?_) (fun h25 => ?_)
    · refine ee_lload 0 dBoxReader_boxEnd_30 rfl ?_
      refine ee_ldc2 (v := (8 : Int64)) dBoxReader_boxEnd_32 gw_559 ?_
      refine ee_lcmp dBoxReader_boxEnd_35 ?_
      refine ee_if_ge (tgt := 41) dBoxReader_boxEnd_36 (by decide) (fun h36 => ?_) (fun h36 => ?_)
      · refine ee_lload 0 dBoxReader_boxEnd_41 rfl ?_
        refine ee_iload_n 3 dBoxReader_boxEnd_43 rfl ?_
        refine ee_iload_n 2 dBoxReader_boxEnd_44 rfl ?_
        refine ee_isub dBoxReader_boxEnd_45 ?_
        refine ee_i2l dBoxReader_boxEnd_46 ?_
        refine ee_lcmp dBoxReader_boxEnd_47 ?_
        refine ee_if_le (tgt := 71) dBoxReader_boxEnd_48 (by decide) (fun h48 => ?_) (fun h48 => ?_)
        · refine ee_iload_n 2 dBoxReader_boxEnd_71 rfl ?_
          refine ee_lload 0 dBoxReader_boxEnd_72 rfl ?_
          refine ee_l2i dBoxReader_boxEnd_74 ?_
          refine ee_iadd dBoxReader_boxEnd_75 ?_
          exact ee_iret rfl dBoxReader_boxEnd_76
        · refine ee_iload_n 4 dBoxReader_boxEnd_51 rfl ?_
          refine ee_if_eq (tgt := 69) dBoxReader_boxEnd_52 (by decide) (fun h52 => ?_) (fun h52 => ?_)
          · refine ee_iconst (v := (-1 : Int32)) dBoxReader_boxEnd_69 (by decide) ?_
            exact ee_iret rfl dBoxReader_boxEnd_70
          · refine ee_aload_n 1 dBoxReader_boxEnd_55 rfl ?_
            refine ee_iload_n 2 dBoxReader_boxEnd_56 rfl ?_
            refine ee_bind (fun _ ho57 => ?_)
            refine ee_callV (as := [.int l1]) (st := []) dBoxReader_boxEnd_57 (t_fBoxReader_kindAt l0 l1 w16) my_fBoxReader_kindAt.1 (Nat.le_of_ble_eq_true rfl) my_fBoxReader_kindAt.2 rfl cf_1.1 rfl (p_obj_eq.mp ho57) gw_545 gw_546 gw_547 ⟨Nat.le_of_ble_eq_true rfl, Nat.le_of_ble_eq_true rfl⟩ (Nat.le_of_ble_eq_true rfl) (fun rv57 w57 _ => ?_)
            refine ee_kI (fun v57 => ?_)
            refine ee_ldc (v := (1785737827 : Int32)) dBoxReader_boxEnd_60 gw_560 ?_
            refine ee_icmp_ne (tgt := 69) dBoxReader_boxEnd_62 (by decide) (fun h62 => ?_) (fun h62 => ?_)
            · refine ee_iconst (v := (-1 : Int32)) dBoxReader_boxEnd_69 (by decide) ?_
              exact ee_iret rfl dBoxReader_boxEnd_70
            · refine ee_iload_n 3 dBoxReader_boxEnd_65 rfl ?_
              refine ee_goto (tgt := 70) dBoxReader_boxEnd_66 (by decide) ?_
              exact ee_iret rfl dBoxReader_boxEnd_70
      · refine ee_iconst (v := (-1 : Int32)) dBoxReader_boxEnd_39 (by decide) ?_
        exact ee_iret rfl dBoxReader_boxEnd_40
    · refine ee_iload_n 3 dBoxReader_boxEnd_28 rfl ?_
      exact ee_iret rfl dBoxReader_boxEnd_29
  · refine ee_iconst (v := (-1 : Int32)) dBoxReader_boxEnd_8 (by decide) ?_
    exact ee_iret rfl dBoxReader_boxEnd_9
def fBoxReader_keepUnknown (l0 : Nat) (l1 : Int32) (l2 : Int32) (w : PW) : PX := (p_getR w l0 1 1).bind fun v1 => (p_obj w v1 5).bind fun _ => p_call (fNumbers_append v1 l1 w) <| p_kV fun w5 => (p_getR w5 l0 1 2).bind fun v9 => (p_obj w5 v9 5).bind fun _ => p_call (fNumbers_append v9 l2 w5) <| p_kV fun w13 => some (.inl none, w13)
set_option maxRecDepth 20000 in
set_option maxHeartbeats 2000000 in
theorem t_fBoxReader_keepUnknown {Γ : PG} : ∀ (l0 : Nat) (l1 : Int32) (l2 : Int32) (w : PW), EE Γ MBoxReader_keepUnknown 0 (lv_args 0 [.ref l0, .int l1, .int l2]) [] w (fBoxReader_keepUnknown l0 l1 l2 w) := by
  intro l0 l1 l2 w
  unfold fBoxReader_keepUnknown
  show EE Γ MBoxReader_keepUnknown 0 [(0, .ref l0), (1, .int l1), (2, .int l2)] [] w _
  refine ee_aload_n 0 dBoxReader_keepUnknown_0 rfl ?_
  refine ee_getR dBoxReader_keepUnknown_1 lfBoxReader_12 (fun v1 _ => ?_)
  refine ee_iload_n 1 dBoxReader_keepUnknown_4 rfl ?_
  refine ee_bind (fun _ ho5 => ?_)
  refine ee_callV (as := [.int l1]) (st := []) dBoxReader_keepUnknown_5 (t_fNumbers_append v1 l1 w) my_fNumbers_append.1 (Nat.le_of_ble_eq_true rfl) my_fNumbers_append.2 rfl cf_5.1 rfl (p_obj_eq.mp ho5) gw_572 gw_573 gw_574 ⟨Nat.le_of_ble_eq_true rfl, Nat.le_of_ble_eq_true rfl⟩ (Nat.le_of_ble_eq_true rfl) (fun rv5 w5 _ => ?_)
  refine ee_kV ?_
  refine ee_aload_n 0 dBoxReader_keepUnknown_8 rfl ?_
  refine ee_getR dBoxReader_keepUnknown_9 lfBoxReader_18 (fun v9 _ => ?_)
  refine ee_iload_n 2 dBoxReader_keepUnknown_12 rfl ?_
  refine ee_bind (fun _ ho13 => ?_)
  refine ee_callV (as := [.int l2]) (st := []) dBoxReader_keepUnknown_13 (t_fNumbers_append v9 l2 w5) my_fNumbers_append.1 (Nat.le_of_ble_eq_true rfl) my_fNumbers_append.2 rfl cf_5.1 rfl (p_obj_eq.mp ho13) gw_572 gw_573 gw_574 ⟨Nat.le_of_ble_eq_true rfl, Nat.le_of_ble_eq_true rfl⟩ (Nat.le_of_ble_eq_true rfl) (fun rv13 w13 _ => ?_)
  refine ee_kV ?_
  exact ee_vret rfl dBoxReader_keepUnknown_16
def fBoxReader_readHeaderBoxes_134 (k_5 : Nat → Int32 → Int32 → Int32 → PW → PX) (l0 : Nat) (l2 : Int32) (l4 : Int32) (l5 : Int32) (w : PW) : PX := p_let (l4 + (1 : Int32)) fun (l4_137 : Int32) => k_5 l0 l2 l5 l4_137 w
set_option maxRecDepth 20000 in
set_option maxHeartbeats 2000000 in
theorem t_fBoxReader_readHeaderBoxes_134 {Γ : PG} {k_5 : Nat → Int32 → Int32 → Int32 → PW → PX} (hk_5 : ∀ (l0 : Nat) (l2 : Int32) (l3 : Int32) (l4 : Int32) (w : PW), EE Γ MBoxReader_readHeaderBoxes 5 [(0, .ref l0), (2, .int l2), (3, .int l3), (4, .int l4)] [] w (k_5 l0 l2 l3 l4 w)) : ∀ (l0 : Nat) (l2 : Int32) (l4 : Int32) (l5 : Int32) (w : PW), EE Γ MBoxReader_readHeaderBoxes 134 [(0, .ref l0), (2, .int l2), (4, .int l4), (5, .int l5)] [] w (fBoxReader_readHeaderBoxes_134 k_5 l0 l2 l4 l5 w) := by
  intro l0 l2 l4 l5 w
  unfold fBoxReader_readHeaderBoxes_134
  refine ee_iload 3 dBoxReader_readHeaderBoxes_134 rfl ?_
  refine ee_istore_n (lv2 := [(3, .int l5), (0, .ref l0), (2, .int l2), (4, .int l4), (5, .int l5)]) dBoxReader_readHeaderBoxes_136 (Nat.le_of_ble_eq_true rfl) rfl ?_
  refine ee_iinc 3 dBoxReader_readHeaderBoxes_137 rfl (e := (1 : Int32)) (by decide) (Nat.le_of_ble_eq_true rfl) (fun l4_137 _ => ?_)
  refine ee_lv (lv2 := [(4, .int l4_137), (3, .int l5), (0, .ref l0), (2, .int l2), (5, .int l5)]) rfl ?_
  refine ee_goto (tgt := 5) dBoxReader_readHeaderBoxes_140 (by decide) ?_
  refine ee_pick [2, 3, 1, 0] rfl ?_
  exact hk_5 _ _ _ _ w
def fBoxReader_readHeaderBoxes_127 (k_5 : Nat → Int32 → Int32 → Int32 → PW → PX) (l0 : Nat) (l2 : Int32) (l3 : Int32) (l4 : Int32) (l5 : Int32) (w : PW) : PX := (p_obj w l0 1).bind fun _ => p_call (fBoxReader_keepUnknown l0 l3 l5 w) <| p_kV fun w131 => fBoxReader_readHeaderBoxes_134 k_5 l0 l2 l4 l5 w131
set_option maxRecDepth 20000 in
set_option maxHeartbeats 2000000 in
theorem t_fBoxReader_readHeaderBoxes_127 {Γ : PG} {k_5 : Nat → Int32 → Int32 → Int32 → PW → PX} (hk_5 : ∀ (l0 : Nat) (l2 : Int32) (l3 : Int32) (l4 : Int32) (w : PW), EE Γ MBoxReader_readHeaderBoxes 5 [(0, .ref l0), (2, .int l2), (3, .int l3), (4, .int l4)] [] w (k_5 l0 l2 l3 l4 w)) : ∀ (l0 : Nat) (l2 : Int32) (l3 : Int32) (l4 : Int32) (l5 : Int32) (w : PW), EE Γ MBoxReader_readHeaderBoxes 127 [(0, .ref l0), (2, .int l2), (3, .int l3), (4, .int l4), (5, .int l5)] [] w (fBoxReader_readHeaderBoxes_127 k_5 l0 l2 l3 l4 l5 w) := by
  intro l0 l2 l3 l4 l5 w
  unfold fBoxReader_readHeaderBoxes_127
  refine ee_aload_n 0 dBoxReader_readHeaderBoxes_127 rfl ?_
  refine ee_iload_n 2 dBoxReader_readHeaderBoxes_128 rfl ?_
  refine ee_iload 4 dBoxReader_readHeaderBoxes_129 rfl ?_
  refine ee_bind (fun _ ho131 => ?_)
  refine ee_callV (as := [.int l3, .int l5]) (st := []) dBoxReader_readHeaderBoxes_131 (t_fBoxReader_keepUnknown l0 l3 l5 w) my_fBoxReader_keepUnknown.1 (Nat.le_of_ble_eq_true rfl) my_fBoxReader_keepUnknown.2 rfl cf_1.1 rfl (p_obj_eq.mp ho131) gw_568 gw_569 gw_570 ⟨Nat.le_of_ble_eq_true rfl, Nat.le_of_ble_eq_true rfl⟩ (Nat.le_of_ble_eq_true rfl) (fun rv131 w131 _ => ?_)
  refine ee_kV ?_
  refine ee_pick [0, 1, 3, 4] rfl ?_
  exact t_fBoxReader_readHeaderBoxes_134 hk_5 _ _ _ _ w131
def fBoxReader_readHeaderBoxes_23 (k_5 : Nat → Int32 → Int32 → Int32 → PW → PX) (l0 : Nat) (l2 : Int32) (l3 : Int32) (l4 : Int32) (w : PW) : PX := (p_obj w l0 1).bind fun _ => p_call (fBoxReader_boxEnd l0 l3 l2 (0 : Int32) w) <| p_kI fun v27 w27 => if ¬ v27 = (-1 : Int32) then (p_let (((v27 - l3) - (8 : Int32))) fun (l6_47 : Int32) => if ¬ l4 = 0 then ((p_obj w27 l0 1).bind fun _ => p_call (fBoxReader_kindAt l0 l3 w27) <| p_kI fun v75 w75 => if ¬ v75 = (1668246642 : Int32) then (fBoxReader_readHeaderBoxes_127 k_5 l0 l2 l3 l4 v27 w75) else (if l6_47 < (7 : Int32) then (fBoxReader_readHeaderBoxes_127 k_5 l0 l2 l3 l4 v27 w75) else ((p_getR w75 l0 1 0).bind fun v91 => (p_obj w75 v91 2).bind fun _ => p_call (fBytes_get v91 (l3 + (8 : Int32)) w75) <| p_kI fun v98 w98 => if ¬ v98 = (1 : Int32) then (fBoxReader_readHeaderBoxes_127 k_5 l0 l2 l3 l4 v27 w98) else ((p_getR w98 l0 1 0).bind fun v107 => (p_obj w98 v107 2).bind fun _ => p_call (fBytes_number v107 ((l3 + (8 : Int32)) + (3 : Int32)) (4 : Int32) w98) <| p_kJ fun v117 w117 => (p_put w117 l0 1 3 (.int (Int64.toInt32 v117))).bind fun w121 => fBoxReader_readHeaderBoxes_134 k_5 l0 l2 l4 v27 w121)))) else ((p_obj w27 l0 1).bind fun _ => p_call (fBoxReader_kindAt l0 l3 w27) <| p_kI fun v56 w56 => if ¬ v56 = (1768449138 : Int32) then (some (.inl (some (.int l3)), w56)) else (if l6_47 = (14 : Int32) then (fBoxReader_readHeaderBoxes_134 k_5 l0 l2 l4 v27 w56) else (some (.inl (some (.int l3)), w56))))) else (some (.inl (some (.int l3)), w27))
set_option maxRecDepth 20000 in
set_option maxHeartbeats 2000000 in
theorem t_fBoxReader_readHeaderBoxes_23 {Γ : PG} {k_5 : Nat → Int32 → Int32 → Int32 → PW → PX} (hk_5 : ∀ (l0 : Nat) (l2 : Int32) (l3 : Int32) (l4 : Int32) (w : PW), EE Γ MBoxReader_readHeaderBoxes 5 [(0, .ref l0), (2, .int l2), (3, .int l3), (4, .int l4)] [] w (k_5 l0 l2 l3 l4 w)) : ∀ (l0 : Nat) (l2 : Int32) (l3 : Int32) (l4 : Int32) (w : PW), EE Γ MBoxReader_readHeaderBoxes 23 [(0, .ref l0), (2, .int l2), (3, .int l3), (4, .int l4)] [] w (fBoxReader_readHeaderBoxes_23 k_5 l0 l2 l3 l4 w) := by
  intro l0 l2 l3 l4 w
  unfold fBoxReader_readHeaderBoxes_23
  refine ee_aload_n 0 dBoxReader_readHeaderBoxes_23 rfl ?_
  refine ee_iload_n 2 dBoxReader_readHeaderBoxes_24 rfl ?_
  refine ee_iload_n 1 dBoxReader_readHeaderBoxes_25 rfl ?_
  refine ee_iconst (v := (0 : Int32)) dBoxReader_readHeaderBoxes_26 (by decide) ?_
  refine ee_bind (fun _ ho27 => ?_)
  refine ee_callV (as := [.int l3, .int l2, .int (0 : Int32)]) (st := []) dBoxReader_readHeaderBoxes_27 (t_fBoxReader_boxEnd l0 l3 l2 (0 : Int32) w) my_fBoxReader_boxEnd.1 (Nat.le_of_ble_eq_true rfl) my_fBoxReader_boxEnd.2 rfl cf_1.1 rfl (p_obj_eq.mp ho27) gw_555 gw_556 gw_557 ⟨Nat.le_of_ble_eq_true rfl, Nat.le_of_ble_eq_true rfl⟩ (Nat.le_of_ble_eq_true rfl) (fun rv27 w27 _ => ?_)
  refine ee_kI (fun v27 => ?_)
  refine ee_istore (lv2 := [(5, .int v27), (0, .ref l0), (2, .int l2), (3, .int l3), (4, .int l4)]) dBoxReader_readHeaderBoxes_30 (Nat.le_of_ble_eq_true rfl) rfl ?_
  refine ee_iload 0 dBoxReader_readHeaderBoxes_32 rfl ?_
  refine ee_iconst (v := (-1 : Int32)) dBoxReader_readHeaderBoxes_34 (by decide) ?_
  refine ee_icmp_ne (tgt := 40) dBoxReader_readHeaderBoxes_35 (by decide) (fun h35 => ?_) (fun h35 => ?_)
  · refine ee_iload 0 dBoxReader_readHeaderBoxes_40 rfl ?_
    refine ee_iload_n 3 dBoxReader_readHeaderBoxes_42 rfl ?_
    refine ee_isub dBoxReader_readHeaderBoxes_43 ?_
    refine ee_bipush (v := (8 : Int32)) dBoxReader_readHeaderBoxes_44 (by decide) ?_
    refine ee_isub dBoxReader_readHeaderBoxes_46 ?_
    refine ee_letI (fun l6_47 _ => ?_)
    refine ee_istore (lv2 := [(6, .int l6_47), (5, .int v27), (0, .ref l0), (2, .int l2), (3, .int l3), (4, .int l4)]) dBoxReader_readHeaderBoxes_47 (Nat.le_of_ble_eq_true rfl) rfl ?_
    refine ee_iload 5 dBoxReader_readHeaderBoxes_49 rfl ?_
    refine ee_if_ne (tgt := 73) dBoxReader_readHeaderBoxes_51 (by decide) (fun h51 => ?_) (fun h51 => ?_)
    · refine ee_aload_n 2 dBoxReader_readHeaderBoxes_73 rfl ?_
      refine ee_iload_n 4 dBoxReader_readHeaderBoxes_74 rfl ?_
      refine ee_bind (fun _ ho75 => ?_)
      refine ee_callV (as := [.int l3]) (st := []) dBoxReader_readHeaderBoxes_75 (t_fBoxReader_kindAt l0 l3 w27) my_fBoxReader_kindAt.1 (Nat.le_of_ble_eq_true rfl) my_fBoxReader_kindAt.2 rfl cf_1.1 rfl (p_obj_eq.mp ho75) gw_545 gw_546 gw_547 ⟨Nat.le_of_ble_eq_true rfl, Nat.le_of_ble_eq_true rfl⟩ (Nat.le_of_ble_eq_true rfl) (fun rv75 w75 _ => ?_)
      refine ee_kI (fun v75 => ?_)
      refine ee_ldc (v := (1668246642 : Int32)) dBoxReader_readHeaderBoxes_78 gw_567 ?_
      refine ee_icmp_ne (tgt := 127) dBoxReader_readHeaderBoxes_80 (by decide) (fun h80 => ?_) (fun h80 => ?_)
      · refine ee_pick [2, 3, 4, 5, 1] rfl ?_
        exact t_fBoxReader_readHeaderBoxes_127 hk_5 _ _ _ _ _ w75
      · refine ee_iload 0 dBoxReader_readHeaderBoxes_83 rfl ?_
        refine ee_bipush (v := (7 : Int32)) dBoxReader_readHeaderBoxes_85 (by decide) ?_
        refine ee_icmp_lt (tgt := 127) dBoxReader_readHeaderBoxes_87 (by decide) (fun h87 => ?_) (fun h87 => ?_)
        · refine ee_pick [2, 3, 4, 5, 1] rfl ?_
          exact t_fBoxReader_readHeaderBoxes_127 hk_5 _ _ _ _ _ w75
        · refine ee_aload_n 2 dBoxReader_readHeaderBoxes_90 rfl ?_
          refine ee_getR dBoxReader_readHeaderBoxes_91 lfBoxReader_31 (fun v91 _ => ?_)
          refine ee_iload_n 4 dBoxReader_readHeaderBoxes_94 rfl ?_
          refine ee_bipush (v := (8 : Int32)) dBoxReader_readHeaderBoxes_95 (by decide) ?_
          refine ee_iadd dBoxReader_readHeaderBoxes_97 ?_
          refine ee_bind (fun _ ho98 => ?_)
          refine ee_callV (as := [.int (l3 + (8 : Int32))]) (st := []) dBoxReader_readHeaderBoxes_98 (t_fBytes_get v91 (l3 + (8 : Int32)) w75) my_fBytes_get.1 (Nat.le_of_ble_eq_true rfl) my_fBytes_get.2 rfl cf_2.1 rfl (p_obj_eq.mp ho98) gw_532 gw_459 gw_460 ⟨Nat.le_of_ble_eq_true rfl, Nat.le_of_ble_eq_true rfl⟩ (Nat.le_of_ble_eq_true rfl) (fun rv98 w98 _ => ?_)
          refine ee_kI (fun v98 => ?_)
          refine ee_iconst (v := (1 : Int32)) dBoxReader_readHeaderBoxes_101 (by decide) ?_
          refine ee_icmp_ne (tgt := 127) dBoxReader_readHeaderBoxes_102 (by decide) (fun h102 => ?_) (fun h102 => ?_)
          · refine ee_pick [2, 3, 4, 5, 1] rfl ?_
            exact t_fBoxReader_readHeaderBoxes_127 hk_5 _ _ _ _ _ w98
          · refine ee_aload_n 2 dBoxReader_readHeaderBoxes_105 rfl ?_
            refine ee_aload_n 2 dBoxReader_readHeaderBoxes_106 rfl ?_
            refine ee_getR dBoxReader_readHeaderBoxes_107 lfBoxReader_31 (fun v107 _ => ?_)
            refine ee_iload_n 4 dBoxReader_readHeaderBoxes_110 rfl ?_
            refine ee_bipush (v := (8 : Int32)) dBoxReader_readHeaderBoxes_111 (by decide) ?_
            refine ee_iadd dBoxReader_readHeaderBoxes_113 ?_
            refine ee_iconst (v := (3 : Int32)) dBoxReader_readHeaderBoxes_114 (by decide) ?_
            refine ee_iadd dBoxReader_readHeaderBoxes_115 ?_
            refine ee_iconst (v := (4 : Int32)) dBoxReader_readHeaderBoxes_116 (by decide) ?_
            refine ee_bind (fun _ ho117 => ?_)
            refine ee_callV (as := [.int ((l3 + (8 : Int32)) + (3 : Int32)), .int (4 : Int32)]) (st := [.ref l0]) dBoxReader_readHeaderBoxes_117 (t_fBytes_number v107 ((l3 + (8 : Int32)) + (3 : Int32)) (4 : Int32) w98) my_fBytes_number.1 (Nat.le_of_ble_eq_true rfl) my_fBytes_number.2 rfl cf_2.1 rfl (p_obj_eq.mp ho117) gw_537 gw_538 gw_539 ⟨Nat.le_of_ble_eq_true rfl, Nat.le_of_ble_eq_true rfl⟩ (Nat.le_of_ble_eq_true rfl) (fun rv117 w117 _ => ?_)
            refine ee_kJ (fun v117 => ?_)
            refine ee_l2i dBoxReader_readHeaderBoxes_120 ?_
            refine ee_put dBoxReader_readHeaderBoxes_121 lpBoxReader_21 (ee_nI _) (fun w121 _ => ?_)
            refine ee_goto (tgt := 134) dBoxReader_readHeaderBoxes_124 (by decide) ?_
            refine ee_pick [2, 3, 5, 1] rfl ?_
            exact t_fBoxReader_readHeaderBoxes_134 hk_5 _ _ _ _ w121
    · refine ee_aload_n 2 dBoxReader_readHeaderBoxes_54 rfl ?_
      refine ee_iload_n 4 dBoxReader_readHeaderBoxes_55 rfl ?_
      refine ee_bind (fun _ ho56 => ?_)
      refine ee_callV (as := [.int l3]) (st := []) dBoxReader_readHeaderBoxes_56 (t_fBoxReader_kindAt l0 l3 w27) my_fBoxReader_kindAt.1 (Nat.le_of_ble_eq_true rfl) my_fBoxReader_kindAt.2 rfl cf_1.1 rfl (p_obj_eq.mp ho56) gw_545 gw_546 gw_547 ⟨Nat.le_of_ble_eq_true rfl, Nat.le_of_ble_eq_true rfl⟩ (Nat.le_of_ble_eq_true rfl) (fun rv56 w56 _ => ?_)
      refine ee_kI (fun v56 => ?_)
      refine ee_ldc (v := (1768449138 : Int32)) dBoxReader_readHeaderBoxes_59 gw_566 ?_
      refine ee_icmp_ne (tgt := 71) dBoxReader_readHeaderBoxes_61 (by decide) (fun h61 => ?_) (fun h61 => ?_)
      · refine ee_iload_n 4 dBoxReader_readHeaderBoxes_71 rfl ?_
        exact ee_iret rfl dBoxReader_readHeaderBoxes_72
      · refine ee_iload 0 dBoxReader_readHeaderBoxes_64 rfl ?_
        refine ee_bipush (v := (14 : Int32)) dBoxReader_readHeaderBoxes_66 (by decide) ?_
        refine ee_icmp_eq (tgt := 134) dBoxReader_readHeaderBoxes_68 (by decide) (fun h68 => ?_) (fun h68 => ?_)
        · refine ee_pick [2, 3, 5, 1] rfl ?_
          exact t_fBoxReader_readHeaderBoxes_134 hk_5 _ _ _ _ w56
        · refine ee_iload_n 4 dBoxReader_readHeaderBoxes_71 rfl ?_
          exact ee_iret rfl dBoxReader_readHeaderBoxes_72
  · refine ee_iload_n 3 dBoxReader_readHeaderBoxes_38 rfl ?_
    exact ee_iret rfl dBoxReader_readHeaderBoxes_39
def fBoxReader_readHeaderBoxes_5 : Nat → Nat → Int32 → Int32 → Int32 → PW → PX
  | 0, _, _, _, _, _ => none
  | n9 + 1, l0, l2, l3, l4, w => if (20000 : Int32) ≤ l4 then (some (.inl (some (.int (-1 : Int32))), w)) else (if l4 = 0 then (fBoxReader_readHeaderBoxes_23 (fBoxReader_readHeaderBoxes_5 n9) l0 l2 l3 l4 w) else (if l2 ≤ l3 then (some (.inl (some (.int (-1 : Int32))), w)) else (fBoxReader_readHeaderBoxes_23 (fBoxReader_readHeaderBoxes_5 n9) l0 l2 l3 l4 w)))
set_option maxRecDepth 20000 in
set_option maxHeartbeats 2000000 in
theorem t_fBoxReader_readHeaderBoxes_5 {Γ : PG} : ∀ (n9 : Nat) (l0 : Nat) (l2 : Int32) (l3 : Int32) (l4 : Int32) (w : PW), EE Γ MBoxReader_readHeaderBoxes 5 [(0, .ref l0), (2, .int l2), (3, .int l3), (4, .int l4)] [] w (fBoxReader_readHeaderBoxes_5 n9 l0 l2 l3 l4 w) := by
  intro n9
  induction n9 with
  | zero => intro l0 l2 l3 l4 w; exact ee_none
  | succ n9 ih =>
    intro l0 l2 l3 l4 w
    unfold fBoxReader_readHeaderBoxes_5
    refine ee_iload 3 dBoxReader_readHeaderBoxes_5 rfl ?_
    refine ee_sipush (v := (20000 : Int32)) dBoxReader_readHeaderBoxes_7 (by decide) ?_
    refine ee_icmp_ge (tgt := 143) dBoxReader_readHeaderBoxes_10 (by decide) (fun h10 => ?_) (fun h10 => ?_)
    · refine ee_iconst (v := (-1 : Int32)) dBoxReader_readHeaderBoxes_143 (by decide) ?_
      exact ee_iret rfl dBoxReader_readHeaderBoxes_144
    · refine ee_iload 3 dBoxReader_readHeaderBoxes_13 rfl ?_
      refine ee_if_eq (tgt := 23) dBoxReader_readHeaderBoxes_15 (by decide) (fun h15 => ?_) (fun h15 => ?_)
      · exact t_fBoxReader_readHeaderBoxes_23 ih _ _ _ _ w
      · refine ee_iload_n 2 dBoxReader_readHeaderBoxes_18 rfl ?_
        refine ee_iload_n 1 dBoxReader_readHeaderBoxes_19 rfl ?_
        refine ee_icmp_ge (tgt := 143) dBoxReader_readHeaderBoxes_20 (by decide) (fun h20 => ?_) (fun h20 => ?_)
        · refine ee_iconst (v := (-1 : Int32)) dBoxReader_readHeaderBoxes_143 (by decide) ?_
          exact ee_iret rfl dBoxReader_readHeaderBoxes_144
        · exact t_fBoxReader_readHeaderBoxes_23 ih _ _ _ _ w
def fBoxReader_readHeaderBoxes (l0 : Nat) (l1 : Int32) (l2 : Int32) (w : PW) : PX := fBoxReader_readHeaderBoxes_5 FUEL l0 l2 l1 (0 : Int32) w
set_option maxRecDepth 20000 in
set_option maxHeartbeats 2000000 in
theorem t_fBoxReader_readHeaderBoxes {Γ : PG} : ∀ (l0 : Nat) (l1 : Int32) (l2 : Int32) (w : PW), EE Γ MBoxReader_readHeaderBoxes 0 (lv_args 0 [.ref l0, .int l1, .int l2]) [] w (fBoxReader_readHeaderBoxes l0 l1 l2 w) := by
  intro l0 l1 l2 w
  unfold fBoxReader_readHeaderBoxes
  show EE Γ MBoxReader_readHeaderBoxes 0 [(0, .ref l0), (1, .int l1), (2, .int l2)] [] w _
  refine ee_iload_n 1 dBoxReader_readHeaderBoxes_0 rfl ?_
  refine ee_istore_n (lv2 := [(3, .int l1), (0, .ref l0), (1, .int l1), (2, .int l2)]) dBoxReader_readHeaderBoxes_1 (Nat.le_of_ble_eq_true rfl) rfl ?_
  refine ee_iconst (v := (0 : Int32)) dBoxReader_readHeaderBoxes_2 (by decide) ?_
  refine ee_istore (lv2 := [(4, .int (0 : Int32)), (3, .int l1), (0, .ref l0), (1, .int l1), (2, .int l2)]) dBoxReader_readHeaderBoxes_3 (Nat.le_of_ble_eq_true rfl) rfl ?_
  refine ee_pick [2, 4, 1, 0] rfl ?_
  exact t_fBoxReader_readHeaderBoxes_5 FUEL _ _ _ _ w
def fBoxReader_readBoxes_125 (k_13 : Nat → Int32 → Int32 → Int32 → PW → PX) (l0 : Nat) (l1 : Int32) (l3 : Int32) (l4 : Int32) (w : PW) : PX := p_let (l3 + (1 : Int32)) fun (l3_128 : Int32) => k_13 l0 l1 l4 l3_128 w
set_option maxRecDepth 20000 in
set_option maxHeartbeats 2000000 in
theorem t_fBoxReader_readBoxes_125 {Γ : PG} {k_13 : Nat → Int32 → Int32 → Int32 → PW → PX} (hk_13 : ∀ (l0 : Nat) (l1 : Int32) (l2 : Int32) (l3 : Int32) (w : PW), EE Γ MBoxReader_readBoxes 13 [(0, .ref l0), (1, .int l1), (2, .int l2), (3, .int l3)] [] w (k_13 l0 l1 l2 l3 w)) : ∀ (l0 : Nat) (l1 : Int32) (l3 : Int32) (l4 : Int32) (w : PW), EE Γ MBoxReader_readBoxes 125 [(0, .ref l0), (1, .int l1), (3, .int l3), (4, .int l4)] [] w (fBoxReader_readBoxes_125 k_13 l0 l1 l3 l4 w) := by
  intro l0 l1 l3 l4 w
  unfold fBoxReader_readBoxes_125
  refine ee_iload 3 dBoxReader_readBoxes_125 rfl ?_
  refine ee_istore_n (lv2 := [(2, .int l4), (0, .ref l0), (1, .int l1), (3, .int l3), (4, .int l4)]) dBoxReader_readBoxes_127 (Nat.le_of_ble_eq_true rfl) rfl ?_
  refine ee_iinc 3 dBoxReader_readBoxes_128 rfl (e := (1 : Int32)) (by decide) (Nat.le_of_ble_eq_true rfl) (fun l3_128 _ => ?_)
  refine ee_lv (lv2 := [(3, .int l3_128), (2, .int l4), (0, .ref l0), (1, .int l1), (4, .int l4)]) rfl ?_
  refine ee_goto (tgt := 13) dBoxReader_readBoxes_131 (by decide) ?_
  refine ee_pick [2, 3, 1, 0] rfl ?_
  exact hk_13 _ _ _ _ w
def fBoxReader_readBoxes_93 (k_13 : Nat → Int32 → Int32 → Int32 → PW → PX) (l0 : Nat) (l1 : Int32) (l2 : Int32) (l3 : Int32) (l4 : Int32) (l5 : Int32) (s0 : Int32) (w : PW) : PX := if s0 = (-1 : Int32) then (if l5 = (1785737832 : Int32) then (fBoxReader_readBoxes_125 k_13 l0 l1 l3 l4 w) else (if l5 = (1718909296 : Int32) then (fBoxReader_readBoxes_125 k_13 l0 l1 l3 l4 w) else ((p_obj w l0 1).bind fun _ => p_call (fBoxReader_keepUnknown l0 l2 l4 w) <| p_kV fun w122 => fBoxReader_readBoxes_125 k_13 l0 l1 l3 l4 w122))) else (some (.inl (some (.int s0)), w))
set_option maxRecDepth 20000 in
set_option maxHeartbeats 2000000 in
theorem t_fBoxReader_readBoxes_93 {Γ : PG} {k_13 : Nat → Int32 → Int32 → Int32 → PW → PX} (hk_13 : ∀ (l0 : Nat) (l1 : Int32) (l2 : Int32) (l3 : Int32) (w : PW), EE Γ MBoxReader_readBoxes 13 [(0, .ref l0), (1, .int l1), (2, .int l2), (3, .int l3)] [] w (k_13 l0 l1 l2 l3 w)) : ∀ (l0 : Nat) (l1 : Int32) (l2 : Int32) (l3 : Int32) (l4 : Int32) (l5 : Int32) (s0 : Int32) (w : PW), EE Γ MBoxReader_readBoxes 93 [(0, .ref l0), (1, .int l1), (2, .int l2), (3, .int l3), (4, .int l4), (5, .int l5)] [.int s0] w (fBoxReader_readBoxes_93 k_13 l0 l1 l2 l3 l4 l5 s0 w) := by
  intro l0 l1 l2 l3 l4 l5 s0 w
  unfold fBoxReader_readBoxes_93
  refine ee_istore (lv2 := [(6, .int s0), (0, .ref l0), (1, .int l1), (2, .int l2), (3, .int l3), (4, .int l4), (5, .int l5)]) dBoxReader_readBoxes_93 (Nat.le_of_ble_eq_true rfl) rfl ?_
  refine ee_iload 0 dBoxReader_readBoxes_95 rfl ?_
  refine ee_iconst (v := (-1 : Int32)) dBoxReader_readBoxes_97 (by decide) ?_
  refine ee_icmp_eq (tgt := 104) dBoxReader_readBoxes_98 (by decide) (fun h98 => ?_) (fun h98 => ?_)
  · refine ee_iload 6 dBoxReader_readBoxes_104 rfl ?_
    refine ee_ldc (v := (1785737832 : Int32)) dBoxReader_readBoxes_106 gw_561 ?_
    refine ee_icmp_eq (tgt := 125) dBoxReader_readBoxes_108 (by decide) (fun h108 => ?_) (fun h108 => ?_)
    · refine ee_pick [1, 2, 4, 5] rfl ?_
      exact t_fBoxReader_readBoxes_125 hk_13 _ _ _ _ w
    · refine ee_iload 6 dBoxReader_readBoxes_111 rfl ?_
      refine ee_ldc (v := (1718909296 : Int32)) dBoxReader_readBoxes_113 gw_584 ?_
      refine ee_icmp_eq (tgt := 125) dBoxReader_readBoxes_115 (by decide) (fun h115 => ?_) (fun h115 => ?_)
      · refine ee_pick [1, 2, 4, 5] rfl ?_
        exact t_fBoxReader_readBoxes_125 hk_13 _ _ _ _ w
      · refine ee_aload_n 1 dBoxReader_readBoxes_118 rfl ?_
        refine ee_iload_n 3 dBoxReader_readBoxes_119 rfl ?_
        refine ee_iload 5 dBoxReader_readBoxes_120 rfl ?_
        refine ee_bind (fun _ ho122 => ?_)
        refine ee_callV (as := [.int l2, .int l4]) (st := []) dBoxReader_readBoxes_122 (t_fBoxReader_keepUnknown l0 l2 l4 w) my_fBoxReader_keepUnknown.1 (Nat.le_of_ble_eq_true rfl) my_fBoxReader_keepUnknown.2 rfl cf_1.1 rfl (p_obj_eq.mp ho122) gw_568 gw_569 gw_570 ⟨Nat.le_of_ble_eq_true rfl, Nat.le_of_ble_eq_true rfl⟩ (Nat.le_of_ble_eq_true rfl) (fun rv122 w122 _ => ?_)
        refine ee_kV ?_
        refine ee_pick [1, 2, 4, 5] rfl ?_
        exact t_fBoxReader_readBoxes_125 hk_13 _ _ _ _ w122
  · refine ee_iload 0 dBoxReader_readBoxes_101 rfl ?_
    exact ee_iret rfl dBoxReader_readBoxes_103
def fBoxReader_readBoxes_13 : Nat → Nat → Int32 → Int32 → Int32 → PW → PX
  | 0, _, _, _, _, _ => none
  | n9 + 1, l0, l1, l2, l3, w => if (20000 : Int32) ≤ l3 then (some (.inl (some (.int l1)), w)) else (if l1 ≤ l2 then (some (.inl (some (.int l1)), w)) else ((p_obj w l0 1).bind fun _ => p_call (fBoxReader_boxEnd l0 l2 l1 (1 : Int32) w) <| p_kI fun v29 w29 => if ¬ v29 = (-1 : Int32) then ((p_obj w29 l0 1).bind fun _ => p_call (fBoxReader_kindAt l0 l2 w29) <| p_kI fun v44 w44 => if ¬ v44 = (1785737827 : Int32) then (if ¬ v44 = (1785737832 : Int32) then (fBoxReader_readBoxes_93 (fBoxReader_readBoxes_13 n9) l0 l1 l2 l3 v29 v44 (-1 : Int32) w44) else ((p_obj w44 l0 1).bind fun _ => p_call (fBoxReader_readHeaderBoxes l0 (l2 + (8 : Int32)) v29 w44) <| p_kI fun v86 w86 => fBoxReader_readBoxes_93 (fBoxReader_readBoxes_13 n9) l0 l1 l2 l3 v29 v44 v86 w86)) else ((p_put w44 l0 1 4 (.int (l2 + (8 : Int32)))).bind fun w61 => (p_put w61 l0 1 5 (.int v29)).bind fun w67 => some (.inl (some (.int (-1 : Int32))), w67))) else (some (.inl (some (.int l2)), w29))))
set_option maxRecDepth 20000 in
set_option maxHeartbeats 2000000 in
theorem t_fBoxReader_readBoxes_13 {Γ : PG} : ∀ (n9 : Nat) (l0 : Nat) (l1 : Int32) (l2 : Int32) (l3 : Int32) (w : PW), EE Γ MBoxReader_readBoxes 13 [(0, .ref l0), (1, .int l1), (2, .int l2), (3, .int l3)] [] w (fBoxReader_readBoxes_13 n9 l0 l1 l2 l3 w) := by
  intro n9
  induction n9 with
  | zero => intro l0 l1 l2 l3 w; exact ee_none
  | succ n9 ih =>
    intro l0 l1 l2 l3 w
    unfold fBoxReader_readBoxes_13
    refine ee_iload_n 3 dBoxReader_readBoxes_13 rfl ?_
    refine ee_sipush (v := (20000 : Int32)) dBoxReader_readBoxes_14 (by decide) ?_
    refine ee_icmp_ge (tgt := 134) dBoxReader_readBoxes_17 (by decide) (fun h17 => ?_) (fun h17 => ?_)
    · refine ee_iload_n 1 dBoxReader_readBoxes_134 rfl ?_
      exact ee_iret rfl dBoxReader_readBoxes_135
    · refine ee_iload_n 2 dBoxReader_readBoxes_20 rfl ?_
      refine ee_iload_n 1 dBoxReader_readBoxes_21 rfl ?_
      refine ee_icmp_ge (tgt := 134) dBoxReader_readBoxes_22 (by decide) (fun h22 => ?_) (fun h22 => ?_)
      · refine ee_iload_n 1 dBoxReader_readBoxes_134 rfl ?_
        exact ee_iret rfl dBoxReader_readBoxes_135
      · refine ee_aload_n 0 dBoxReader_readBoxes_25 rfl ?_
        refine ee_iload_n 2 dBoxReader_readBoxes_26 rfl ?_
        refine ee_iload_n 1 dBoxReader_readBoxes_27 rfl ?_
        refine ee_iconst (v := (1 : Int32)) dBoxReader_readBoxes_28 (by decide) ?_
        refine ee_bind (fun _ ho29 => ?_)
        refine ee_callV (as := [.int l2, .int l1, .int (1 : Int32)]) (st := []) dBoxReader_readBoxes_29 (t_fBoxReader_boxEnd l0 l2 l1 (1 : Int32) w) my_fBoxReader_boxEnd.1 (Nat.le_of_ble_eq_true rfl) my_fBoxReader_boxEnd.2 rfl cf_1.1 rfl (p_obj_eq.mp ho29) gw_555 gw_556 gw_557 ⟨Nat.le_of_ble_eq_true rfl, Nat.le_of_ble_eq_true rfl⟩ (Nat.le_of_ble_eq_true rfl) (fun rv29 w29 _ => ?_)
        refine ee_kI (fun v29 => ?_)
        refine ee_istore (lv2 := [(4, .int v29), (0, .ref l0), (1, .int l1), (2, .int l2), (3, .int l3)]) dBoxReader_readBoxes_32 (Nat.le_of_ble_eq_true rfl) rfl ?_
        refine ee_iload 0 dBoxReader_readBoxes_34 rfl ?_
        refine ee_iconst (v := (-1 : Int32)) dBoxReader_readBoxes_36 (by decide) ?_
        refine ee_icmp_ne (tgt := 42) dBoxReader_readBoxes_37 (by decide) (fun h37 => ?_) (fun h37 => ?_)
        · refine ee_aload_n 1 dBoxReader_readBoxes_42 rfl ?_
          refine ee_iload_n 3 dBoxReader_readBoxes_43 rfl ?_
          refine ee_bind (fun _ ho44 => ?_)
          refine ee_callV (as := [.int l2]) (st := []) dBoxReader_readBoxes_44 (t_fBoxReader_kindAt l0 l2 w29) my_fBoxReader_kindAt.1 (Nat.le_of_ble_eq_true rfl) my_fBoxReader_kindAt.2 rfl cf_1.1 rfl (p_obj_eq.mp ho44) gw_545 gw_546 gw_547 ⟨Nat.le_of_ble_eq_true rfl, Nat.le_of_ble_eq_true rfl⟩ (Nat.le_of_ble_eq_true rfl) (fun rv44 w44 _ => ?_)
          refine ee_kI (fun v44 => ?_)
          refine ee_istore (lv2 := [(5, .int v44), (4, .int v29), (0, .ref l0), (1, .int l1), (2, .int l2), (3, .int l3)]) dBoxReader_readBoxes_47 (Nat.le_of_ble_eq_true rfl) rfl ?_
          refine ee_iload 0 dBoxReader_readBoxes_49 rfl ?_
          refine ee_ldc (v := (1785737827 : Int32)) dBoxReader_readBoxes_51 gw_560 ?_
          refine ee_icmp_ne (tgt := 72) dBoxReader_readBoxes_53 (by decide) (fun h53 => ?_) (fun h53 => ?_)
          · refine ee_iload 0 dBoxReader_readBoxes_72 rfl ?_
            refine ee_ldc (v := (1785737832 : Int32)) dBoxReader_readBoxes_74 gw_561 ?_
            refine ee_icmp_ne (tgt := 92) dBoxReader_readBoxes_76 (by decide) (fun h76 => ?_) (fun h76 => ?_)
            · refine ee_iconst (v := (-1 : Int32)) dBoxReader_readBoxes_92 (by decide) ?_
              refine ee_pick [2, 3, 4, 5, 1, 0] rfl ?_
              exact t_fBoxReader_readBoxes_93 ih _ _ _ _ _ _ _ w44
            · refine ee_aload_n 2 dBoxReader_readBoxes_79 rfl ?_
              refine ee_iload_n 4 dBoxReader_readBoxes_80 rfl ?_
              refine ee_bipush (v := (8 : Int32)) dBoxReader_readBoxes_81 (by decide) ?_
              refine ee_iadd dBoxReader_readBoxes_83 ?_
              refine ee_iload 1 dBoxReader_readBoxes_84 rfl ?_
              refine ee_bind (fun _ ho86 => ?_)
              refine ee_callV (as := [.int (l2 + (8 : Int32)), .int v29]) (st := []) dBoxReader_readBoxes_86 (t_fBoxReader_readHeaderBoxes l0 (l2 + (8 : Int32)) v29 w44) my_fBoxReader_readHeaderBoxes.1 (Nat.le_of_ble_eq_true rfl) my_fBoxReader_readHeaderBoxes.2 rfl cf_1.1 rfl (p_obj_eq.mp ho86) gw_562 gw_563 gw_564 ⟨Nat.le_of_ble_eq_true rfl, Nat.le_of_ble_eq_true rfl⟩ (Nat.le_of_ble_eq_true rfl) (fun rv86 w86 _ => ?_)
              refine ee_kI (fun v86 => ?_)
              refine ee_goto (tgt := 93) dBoxReader_readBoxes_89 (by decide) ?_
              refine ee_pick [2, 3, 4, 5, 1, 0] rfl ?_
              exact t_fBoxReader_readBoxes_93 ih _ _ _ _ _ _ _ w86
          · refine ee_aload_n 2 dBoxReader_readBoxes_56 rfl ?_
            refine ee_iload_n 4 dBoxReader_readBoxes_57 rfl ?_
            refine ee_bipush (v := (8 : Int32)) dBoxReader_readBoxes_58 (by decide) ?_
            refine ee_iadd dBoxReader_readBoxes_60 ?_
            refine ee_put dBoxReader_readBoxes_61 lpBoxReader_25 (ee_nI _) (fun w61 _ => ?_)
            refine ee_aload_n 2 dBoxReader_readBoxes_64 rfl ?_
            refine ee_iload 1 dBoxReader_readBoxes_65 rfl ?_
            refine ee_put dBoxReader_readBoxes_67 lpBoxReader_28 (ee_nI _) (fun w67 _ => ?_)
            refine ee_iconst (v := (-1 : Int32)) dBoxReader_readBoxes_70 (by decide) ?_
            exact ee_iret rfl dBoxReader_readBoxes_71
        · refine ee_iload_n 3 dBoxReader_readBoxes_40 rfl ?_
          exact ee_iret rfl dBoxReader_readBoxes_41
def fBoxReader_readBoxes (l0 : Nat) (w : PW) : PX := (p_getR w l0 1 0).bind fun v1 => (p_getI w v1 2 2).bind fun v4 => fBoxReader_readBoxes_13 FUEL l0 v4 (12 : Int32) (0 : Int32) w
set_option maxRecDepth 20000 in
set_option maxHeartbeats 2000000 in
theorem t_fBoxReader_readBoxes {Γ : PG} : ∀ (l0 : Nat) (w : PW), EE Γ MBoxReader_readBoxes 0 (lv_args 0 [.ref l0]) [] w (fBoxReader_readBoxes l0 w) := by
  intro l0 w
  unfold fBoxReader_readBoxes
  show EE Γ MBoxReader_readBoxes 0 [(0, .ref l0)] [] w _
  refine ee_aload_n 0 dBoxReader_readBoxes_0 rfl ?_
  refine ee_getR dBoxReader_readBoxes_1 lfBoxReader_31 (fun v1 _ => ?_)
  refine ee_getI dBoxReader_readBoxes_4 lfBoxReader_38 (fun v4 _ => ?_)
  refine ee_istore_n (lv2 := [(1, .int v4), (0, .ref l0)]) dBoxReader_readBoxes_7 (Nat.le_of_ble_eq_true rfl) rfl ?_
  refine ee_bipush (v := (12 : Int32)) dBoxReader_readBoxes_8 (by decide) ?_
  refine ee_istore_n (lv2 := [(2, .int (12 : Int32)), (1, .int v4), (0, .ref l0)]) dBoxReader_readBoxes_10 (Nat.le_of_ble_eq_true rfl) rfl ?_
  refine ee_iconst (v := (0 : Int32)) dBoxReader_readBoxes_11 (by decide) ?_
  refine ee_istore_n (lv2 := [(3, .int (0 : Int32)), (2, .int (12 : Int32)), (1, .int v4), (0, .ref l0)]) dBoxReader_readBoxes_12 (Nat.le_of_ble_eq_true rfl) rfl ?_
  refine ee_pick [3, 2, 1, 0] rfl ?_
  exact t_fBoxReader_readBoxes_13 FUEL _ _ _ _ w
def fBoxReader_findStream_45 (l0 : Nat) (w : PW) : PX := (p_obj w l0 1).bind fun _ => p_call (fBoxReader_beginsWithSignature l0 w) <| p_kI fun v46 w46 => if v46 = 0 then (some (.inl (some (.int (0 : Int32))), w46)) else ((p_obj w46 l0 1).bind fun _ => p_call (fBoxReader_readBoxes l0 w46) <| p_kI fun v53 w53 => some (.inl (some (.int v53)), w53))
set_option maxRecDepth 20000 in
set_option maxHeartbeats 2000000 in
theorem t_fBoxReader_findStream_45 {Γ : PG} : ∀ (l0 : Nat) (w : PW), EE Γ MBoxReader_findStream 45 [(0, .ref l0)] [] w (fBoxReader_findStream_45 l0 w) := by
  intro l0 w
  unfold fBoxReader_findStream_45
  refine ee_aload_n 0 dBoxReader_findStream_45 rfl ?_
  refine ee_bind (fun _ ho46 => ?_)
  refine ee_callV (as := []) (st := []) dBoxReader_findStream_46 (t_fBoxReader_beginsWithSignature l0 w) my_fBoxReader_beginsWithSignature.1 (Nat.le_of_ble_eq_true rfl) my_fBoxReader_beginsWithSignature.2 rfl cf_1.1 rfl (p_obj_eq.mp ho46) gw_533 gw_534 gw_535 ⟨Nat.le_of_ble_eq_true rfl, Nat.le_of_ble_eq_true rfl⟩ (Nat.le_of_ble_eq_true rfl) (fun rv46 w46 _ => ?_)
  refine ee_kI (fun v46 => ?_)
  refine ee_if_eq (tgt := 59) dBoxReader_findStream_49 (by decide) (fun h49 => ?_) (fun h49 => ?_)
  · refine ee_iconst (v := (0 : Int32)) dBoxReader_findStream_59 (by decide) ?_
    exact ee_iret rfl dBoxReader_findStream_60
  · refine ee_aload_n 0 dBoxReader_findStream_52 rfl ?_
    refine ee_bind (fun _ ho53 => ?_)
    refine ee_callV (as := []) (st := []) dBoxReader_findStream_53 (t_fBoxReader_readBoxes l0 w46) my_fBoxReader_readBoxes.1 (Nat.le_of_ble_eq_true rfl) my_fBoxReader_readBoxes.2 rfl cf_1.1 rfl (p_obj_eq.mp ho53) gw_551 gw_552 gw_553 ⟨Nat.le_of_ble_eq_true rfl, Nat.le_of_ble_eq_true rfl⟩ (Nat.le_of_ble_eq_true rfl) (fun rv53 w53 _ => ?_)
    refine ee_kI (fun v53 => ?_)
    refine ee_goto (tgt := 60) dBoxReader_findStream_56 (by decide) ?_
    exact ee_iret rfl dBoxReader_findStream_60
def fBoxReader_findStream (l0 : Nat) (w : PW) : PX := (p_put w l0 1 4 (.int (0 : Int32))).bind fun w2 => (p_getR w2 l0 1 0).bind fun v7 => (p_getI w2 v7 2 2).bind fun v10 => (p_put w2 l0 1 5 (.int v10)).bind fun w13 => (p_getR w13 l0 1 0).bind fun v17 => (p_obj w13 v17 2).bind fun _ => p_call (fBytes_get v17 (0 : Int32) w13) <| p_kI fun v21 w21 => if ¬ v21 = (255 : Int32) then (fBoxReader_findStream_45 l0 w21) else ((p_getR w21 l0 1 0).bind fun v31 => (p_obj w21 v31 2).bind fun _ => p_call (fBytes_get v31 (1 : Int32) w21) <| p_kI fun v35 w35 => if ¬ v35 = (79 : Int32) then (fBoxReader_findStream_45 l0 w35) else (some (.inl (some (.int (-1 : Int32))), w35)))
set_option maxRecDepth 20000 in
set_option maxHeartbeats 2000000 in
theorem t_fBoxReader_findStream {Γ : PG} : ∀ (l0 : Nat) (w : PW), EE Γ MBoxReader_findStream 0 (lv_args 0 [.ref l0]) [] w (fBoxReader_findStream l0 w) := by
  intro l0 w
  unfold fBoxReader_findStream
  show EE Γ MBoxReader_findStream 0 [(0, .ref l0)] [] w _
  refine ee_aload_n 0 dBoxReader_findStream_0 rfl ?_
  refine ee_iconst (v := (0 : Int32)) dBoxReader_findStream_1 (by decide) ?_
  refine ee_put dBoxReader_findStream_2 lpBoxReader_25 (ee_nI _) (fun w2 _ => ?_)
  refine ee_aload_n 0 dBoxReader_findStream_5 rfl ?_
  refine ee_aload_n 0 dBoxReader_findStream_6 rfl ?_
  refine ee_getR dBoxReader_findStream_7 lfBoxReader_31 (fun v7 _ => ?_)
  refine ee_getI dBoxReader_findStream_10 lfBoxReader_38 (fun v10 _ => ?_)
  refine ee_put dBoxReader_findStream_13 lpBoxReader_28 (ee_nI _) (fun w13 _ => ?_)
  refine ee_aload_n 0 dBoxReader_findStream_16 rfl ?_
  refine ee_getR dBoxReader_findStream_17 lfBoxReader_31 (fun v17 _ => ?_)
  refine ee_iconst (v := (0 : Int32)) dBoxReader_findStream_20 (by decide) ?_
  refine ee_bind (fun _ ho21 => ?_)
  refine ee_callV (as := [.int (0 : Int32)]) (st := []) dBoxReader_findStream_21 (t_fBytes_get v17 (0 : Int32) w13) my_fBytes_get.1 (Nat.le_of_ble_eq_true rfl) my_fBytes_get.2 rfl cf_2.1 rfl (p_obj_eq.mp ho21) gw_532 gw_459 gw_460 ⟨Nat.le_of_ble_eq_true rfl, Nat.le_of_ble_eq_true rfl⟩ (Nat.le_of_ble_eq_true rfl) (fun rv21 w21 _ => ?_)
  refine ee_kI (fun v21 => ?_)
  refine ee_sipush (v := (255 : Int32)) dBoxReader_findStream_24 (by decide) ?_
  refine ee_icmp_ne (tgt := 45) dBoxReader_findStream_27 (by decide) (fun h27 => ?_) (fun h27 => ?_)
  · exact t_fBoxReader_findStream_45 _ w21
  · refine ee_aload_n 0 dBoxReader_findStream_30 rfl ?_
    refine ee_getR dBoxReader_findStream_31 lfBoxReader_31 (fun v31 _ => ?_)
    refine ee_iconst (v := (1 : Int32)) dBoxReader_findStream_34 (by decide) ?_
    refine ee_bind (fun _ ho35 => ?_)
    refine ee_callV (as := [.int (1 : Int32)]) (st := []) dBoxReader_findStream_35 (t_fBytes_get v31 (1 : Int32) w21) my_fBytes_get.1 (Nat.le_of_ble_eq_true rfl) my_fBytes_get.2 rfl cf_2.1 rfl (p_obj_eq.mp ho35) gw_532 gw_459 gw_460 ⟨Nat.le_of_ble_eq_true rfl, Nat.le_of_ble_eq_true rfl⟩ (Nat.le_of_ble_eq_true rfl) (fun rv35 w35 _ => ?_)
    refine ee_kI (fun v35 => ?_)
    refine ee_bipush (v := (79 : Int32)) dBoxReader_findStream_38 (by decide) ?_
    refine ee_icmp_ne (tgt := 45) dBoxReader_findStream_40 (by decide) (fun h40 => ?_) (fun h40 => ?_)
    · exact t_fBoxReader_findStream_45 _ w35
    · refine ee_iconst (v := (-1 : Int32)) dBoxReader_findStream_43 (by decide) ?_
      exact ee_iret rfl dBoxReader_findStream_44
def fHeadReader_init (l0 : Nat) (l1 : Nat) (l2 : Nat) (w : PW) : PX := (p_put w l0 3 2 (.int (0 : Int32))).bind fun w6 => (p_put w6 l0 3 0 (.ref l1)).bind fun w11 => (p_put w11 l0 3 1 (.ref l2)).bind fun w16 => some (.inl none, w16)
set_option maxRecDepth 20000 in
set_option maxHeartbeats 2000000 in
theorem t_fHeadReader_init {Γ : PG} : ∀ (l0 : Nat) (l1 : Nat) (l2 : Nat) (w : PW), EE Γ MHeadReader_init 0 (lv_args 0 [.ref l0, .ref l1, .ref l2]) [] w (fHeadReader_init l0 l1 l2 w) := by
  intro l0 l1 l2 w
  unfold fHeadReader_init
  show EE Γ MHeadReader_init 0 [(0, .ref l0), (1, .ref l1), (2, .ref l2)] [] w _
  refine ee_aload_n 0 dHeadReader_init_0 rfl ?_
  refine ee_objInit dHeadReader_init_1 gw_235 gw_obji gw_objc ⟨Nat.le_of_ble_eq_true rfl, Nat.le_of_ble_eq_true rfl⟩ ?_
  refine ee_aload_n 0 dHeadReader_init_4 rfl ?_
  refine ee_iconst (v := (0 : Int32)) dHeadReader_init_5 (by decide) ?_
  refine ee_put dHeadReader_init_6 lpiHeadReader_9 (ee_nI _) (fun w6 _ => ?_)
  refine ee_aload_n 0 dHeadReader_init_9 rfl ?_
  refine ee_aload_n 1 dHeadReader_init_10 rfl ?_
  refine ee_put dHeadReader_init_11 lpiHeadReader_15 (ee_nR _ _) (fun w11 _ => ?_)
  refine ee_aload_n 0 dHeadReader_init_14 rfl ?_
  refine ee_aload_n 2 dHeadReader_init_15 rfl ?_
  refine ee_put dHeadReader_init_16 lpiHeadReader_19 (ee_nR _ _) (fun w16 _ => ?_)
  exact ee_vret rfl dHeadReader_init_19
def fHeadReader_isCode (l0 : Nat) (l1 : Int32) (l2 : Int32) (l3 : Int32) (w : PW) : PX := if (l2 - l1) < (2 : Int32) then (p_retZ (0 : Int32) w) else ((p_getR w l0 3 0).bind fun v8 => (p_obj w v8 2).bind fun _ => p_call (fBytes_get v8 l1 w) <| p_kI fun v12 w12 => if ¬ v12 = (255 : Int32) then (p_retZ (0 : Int32) w12) else ((p_getR w12 l0 3 0).bind fun v22 => (p_obj w12 v22 2).bind fun _ => p_call (fBytes_get v22 (l1 + (1 : Int32)) w12) <| p_kI fun v28 w28 => if ¬ v28 = l3 then (p_retZ (0 : Int32) w28) else (p_retZ (1 : Int32) w28)))
set_option maxRecDepth 20000 in
set_option maxHeartbeats 2000000 in
theorem t_fHeadReader_isCode {Γ : PG} : ∀ (l0 : Nat) (l1 : Int32) (l2 : Int32) (l3 : Int32) (w : PW), EE Γ MHeadReader_isCode 0 (lv_args 0 [.ref l0, .int l1, .int l2, .int l3]) [] w (fHeadReader_isCode l0 l1 l2 l3 w) := by
  intro l0 l1 l2 l3 w
  unfold fHeadReader_isCode
  show EE Γ MHeadReader_isCode 0 [(0, .ref l0), (1, .int l1), (2, .int l2), (3, .int l3)] [] w _
  refine ee_iload_n 2 dHeadReader_isCode_0 rfl ?_
  refine ee_iload_n 1 dHeadReader_isCode_1 rfl ?_
  refine ee_isub dHeadReader_isCode_2 ?_
  refine ee_iconst (v := (2 : Int32)) dHeadReader_isCode_3 (by decide) ?_
  refine ee_icmp_lt (tgt := 39) dHeadReader_isCode_4 (by decide) (fun h4 => ?_) (fun h4 => ?_)
  · refine ee_iconst (v := (0 : Int32)) dHeadReader_isCode_39 (by decide) ?_
    exact ee_zret rfl dHeadReader_isCode_40
  · refine ee_aload_n 0 dHeadReader_isCode_7 rfl ?_
    refine ee_getR dHeadReader_isCode_8 lfHeadReader_15 (fun v8 _ => ?_)
    refine ee_iload_n 1 dHeadReader_isCode_11 rfl ?_
    refine ee_bind (fun _ ho12 => ?_)
    refine ee_callV (as := [.int l1]) (st := []) dHeadReader_isCode_12 (t_fBytes_get v8 l1 w) my_fBytes_get.1 (Nat.le_of_ble_eq_true rfl) my_fBytes_get.2 rfl cf_2.1 rfl (p_obj_eq.mp ho12) gw_593 gw_459 gw_460 ⟨Nat.le_of_ble_eq_true rfl, Nat.le_of_ble_eq_true rfl⟩ (Nat.le_of_ble_eq_true rfl) (fun rv12 w12 _ => ?_)
    refine ee_kI (fun v12 => ?_)
    refine ee_sipush (v := (255 : Int32)) dHeadReader_isCode_15 (by decide) ?_
    refine ee_icmp_ne (tgt := 39) dHeadReader_isCode_18 (by decide) (fun h18 => ?_) (fun h18 => ?_)
    · refine ee_iconst (v := (0 : Int32)) dHeadReader_isCode_39 (by decide) ?_
      exact ee_zret rfl dHeadReader_isCode_40
    · refine ee_aload_n 0 dHeadReader_isCode_21 rfl ?_
      refine ee_getR dHeadReader_isCode_22 lfHeadReader_15 (fun v22 _ => ?_)
      refine ee_iload_n 1 dHeadReader_isCode_25 rfl ?_
      refine ee_iconst (v := (1 : Int32)) dHeadReader_isCode_26 (by decide) ?_
      refine ee_iadd dHeadReader_isCode_27 ?_
      refine ee_bind (fun _ ho28 => ?_)
      refine ee_callV (as := [.int (l1 + (1 : Int32))]) (st := []) dHeadReader_isCode_28 (t_fBytes_get v22 (l1 + (1 : Int32)) w12) my_fBytes_get.1 (Nat.le_of_ble_eq_true rfl) my_fBytes_get.2 rfl cf_2.1 rfl (p_obj_eq.mp ho28) gw_593 gw_459 gw_460 ⟨Nat.le_of_ble_eq_true rfl, Nat.le_of_ble_eq_true rfl⟩ (Nat.le_of_ble_eq_true rfl) (fun rv28 w28 _ => ?_)
      refine ee_kI (fun v28 => ?_)
      refine ee_iload_n 3 dHeadReader_isCode_31 rfl ?_
      refine ee_icmp_ne (tgt := 39) dHeadReader_isCode_32 (by decide) (fun h32 => ?_) (fun h32 => ?_)
      · refine ee_iconst (v := (0 : Int32)) dHeadReader_isCode_39 (by decide) ?_
        exact ee_zret rfl dHeadReader_isCode_40
      · refine ee_iconst (v := (1 : Int32)) dHeadReader_isCode_35 (by decide) ?_
        refine ee_goto (tgt := 40) dHeadReader_isCode_36 (by decide) ?_
        exact ee_zret rfl dHeadReader_isCode_40
def fHeadReader_segmentEnd (l0 : Nat) (l1 : Int32) (l2 : Int32) (w : PW) : PX := if (l2 - l1) < (4 : Int32) then (some (.inl (some (.int (-1 : Int32))), w)) else ((p_getR w l0 3 0).bind fun v8 => (p_obj w v8 2).bind fun _ => p_call (fBytes_get v8 l1 w) <| p_kI fun v12 w12 => if v12 = (255 : Int32) then ((p_getR w12 l0 3 0).bind fun v24 => (p_obj w12 v24 2).bind fun _ => p_call (fBytes_number v24 (l1 + (2 : Int32)) (2 : Int32) w12) <| p_kJ fun v31 w31 => p_let ((Int64.toInt32 v31)) fun (l3_35 : Int32) => if l3_35 < (2 : Int32) then (some (.inl (some (.int (-1 : Int32))), w31)) else (if ((l2 - l1) - (2 : Int32)) < l3_35 then (some (.inl (some (.int (-1 : Int32))), w31)) else (some (.inl (some (.int ((l1 + (2 : Int32)) + l3_35))), w31)))) else (some (.inl (some (.int (-1 : Int32))), w12)))
set_option maxRecDepth 20000 in
set_option maxHeartbeats 2000000 in
theorem t_fHeadReader_segmentEnd {Γ : PG} : ∀ (l0 : Nat) (l1 : Int32) (l2 : Int32) (w : PW), EE Γ MHeadReader_segmentEnd 0 (lv_args 0 [.ref l0, .int l1, .int l2]) [] w (fHeadReader_segmentEnd l0 l1 l2 w) := by
  intro l0 l1 l2 w
  unfold fHeadReader_segmentEnd
  show EE Γ MHeadReader_segmentEnd 0 [(0, .ref l0), (1, .int l1), (2, .int l2)] [] w _
  refine ee_iload_n 2 dHeadReader_segmentEnd_0 rfl ?_
  refine ee_iload_n 1 dHeadReader_segmentEnd_1 rfl ?_
  refine ee_isub dHeadReader_segmentEnd_2 ?_
  refine ee_iconst (v := (4 : Int32)) dHeadReader_segmentEnd_3 (by decide) ?_
  refine ee_icmp_lt (tgt := 21) dHeadReader_segmentEnd_4 (by decide) (fun h4 => ?_) (fun h4 => ?_)
  · refine ee_iconst (v := (-1 : Int32)) dHeadReader_segmentEnd_21 (by decide) ?_
    exact ee_iret rfl dHeadReader_segmentEnd_22
  · refine ee_aload_n 0 dHeadReader_segmentEnd_7 rfl ?_
    refine ee_getR dHeadReader_segmentEnd_8 lfHeadReader_15 (fun v8 _ => ?_)
    refine ee_iload_n 1 dHeadReader_segmentEnd_11 rfl ?_
    refine ee_bind (fun _ ho12 => ?_)
    refine ee_callV (as := [.int l1]) (st := []) dHeadReader_segmentEnd_12 (t_fBytes_get v8 l1 w) my_fBytes_get.1 (Nat.le_of_ble_eq_true rfl) my_fBytes_get.2 rfl cf_2.1 rfl (p_obj_eq.mp ho12) gw_593 gw_459 gw_460 ⟨Nat.le_of_ble_eq_true rfl, Nat.le_of_ble_eq_true rfl⟩ (Nat.le_of_ble_eq_true rfl) (fun rv12 w12 _ => ?_)
    refine ee_kI (fun v12 => ?_)
    refine ee_sipush (v := (255 : Int32)) dHeadReader_segmentEnd_15 (by decide) ?_
    refine ee_icmp_eq (tgt := 23) dHeadReader_segmentEnd_18 (by decide) (fun h18 => ?_) (fun h18 => ?_)
    · refine ee_aload_n 0 dHeadReader_segmentEnd_23 rfl ?_
      refine ee_getR dHeadReader_segmentEnd_24 lfHeadReader_15 (fun v24 _ => ?_)
      refine ee_iload_n 1 dHeadReader_segmentEnd_27 rfl ?_
      refine ee_iconst (v := (2 : Int32)) dHeadReader_segmentEnd_28 (by decide) ?_
      refine ee_iadd dHeadReader_segmentEnd_29 ?_
      refine ee_iconst (v := (2 : Int32)) dHeadReader_segmentEnd_30 (by decide) ?_
      refine ee_bind (fun _ ho31 => ?_)
      refine ee_callV (as := [.int (l1 + (2 : Int32)), .int (2 : Int32)]) (st := []) dHeadReader_segmentEnd_31 (t_fBytes_number v24 (l1 + (2 : Int32)) (2 : Int32) w12) my_fBytes_number.1 (Nat.le_of_ble_eq_true rfl) my_fBytes_number.2 rfl cf_2.1 rfl (p_obj_eq.mp ho31) gw_598 gw_538 gw_539 ⟨Nat.le_of_ble_eq_true rfl, Nat.le_of_ble_eq_true rfl⟩ (Nat.le_of_ble_eq_true rfl) (fun rv31 w31 _ => ?_)
      refine ee_kJ (fun v31 => ?_)
      refine ee_l2i dHeadReader_segmentEnd_34 ?_
      refine ee_letI (fun l3_35 _ => ?_)
      refine ee_istore_n (lv2 := [(3, .int l3_35), (0, .ref l0), (1, .int l1), (2, .int l2)]) dHeadReader_segmentEnd_35 (Nat.le_of_ble_eq_true rfl) rfl ?_
      refine ee_iload_n 0 dHeadReader_segmentEnd_36 rfl ?_
      refine ee_iconst (v := (2 : Int32)) dHeadReader_segmentEnd_37 (by decide) ?_
      refine ee_icmp_lt (tgt := 58) dHeadReader_segmentEnd_38 (by decide) (fun h38 => ?_) (fun h38 => ?_)
      · refine ee_iconst (v := (-1 : Int32)) dHeadReader_segmentEnd_58 (by decide) ?_
        exact ee_iret rfl dHeadReader_segmentEnd_59
      · refine ee_iload_n 0 dHeadReader_segmentEnd_41 rfl ?_
        refine ee_iload_n 3 dHeadReader_segmentEnd_42 rfl ?_
        refine ee_iload_n 2 dHeadReader_segmentEnd_43 rfl ?_
        refine ee_isub dHeadReader_segmentEnd_44 ?_
        refine ee_iconst (v := (2 : Int32)) dHeadReader_segmentEnd_45 (by decide) ?_
        refine ee_isub dHeadReader_segmentEnd_46 ?_
        refine ee_icmp_gt (tgt := 58) dHeadReader_segmentEnd_47 (by decide) (fun h47 => ?_) (fun h47 => ?_)
        · refine ee_iconst (v := (-1 : Int32)) dHeadReader_segmentEnd_58 (by decide) ?_
          exact ee_iret rfl dHeadReader_segmentEnd_59
        · refine ee_iload_n 2 dHeadReader_segmentEnd_50 rfl ?_
          refine ee_iconst (v := (2 : Int32)) dHeadReader_segmentEnd_51 (by decide) ?_
          refine ee_iadd dHeadReader_segmentEnd_52 ?_
          refine ee_iload_n 0 dHeadReader_segmentEnd_53 rfl ?_
          refine ee_iadd dHeadReader_segmentEnd_54 ?_
          refine ee_goto (tgt := 59) dHeadReader_segmentEnd_55 (by decide) ?_
          exact ee_iret rfl dHeadReader_segmentEnd_59
    · refine ee_iconst (v := (-1 : Int32)) dHeadReader_segmentEnd_21 (by decide) ?_
      exact ee_iret rfl dHeadReader_segmentEnd_22
def fHeadReader_isTileSide (l0 : Int64) (w : PW) : PX := if (lg_cmp l0 (1 : Int64)) < 0 then (p_retZ (0 : Int32) w) else (if 0 < (lg_cmp l0 (65536 : Int64)) then (p_retZ (0 : Int32) w) else (p_retZ (1 : Int32) w))
set_option maxRecDepth 20000 in
set_option maxHeartbeats 2000000 in
theorem t_fHeadReader_isTileSide {Γ : PG} : ∀ (l0 : Int64) (w : PW), EE Γ MHeadReader_isTileSide 0 (lv_args 0 [.long l0]) [] w (fHeadReader_isTileSide l0 w) := by
  intro l0 w
  unfold fHeadReader_isTileSide
  show EE Γ MHeadReader_isTileSide 0 [(0, .long l0)] [] w _
  refine ee_lload_n 0 dHeadReader_isTileSide_0 rfl ?_
  refine ee_lconst (v := (1 : Int64)) dHeadReader_isTileSide_1 (by decide) ?_
  refine ee_lcmp dHeadReader_isTileSide_2 ?_
  refine ee_if_lt (tgt := 18) dHeadReader_isTileSide_3 (by decide) (fun h3 => ?_) (fun h3 => ?_)
  · refine ee_iconst (v := (0 : Int32)) dHeadReader_isTileSide_18 (by decide) ?_
    exact ee_zret rfl dHeadReader_isTileSide_19
  · refine ee_lload_n 0 dHeadReader_isTileSide_6 rfl ?_
    refine ee_ldc2 (v := (65536 : Int64)) dHeadReader_isTileSide_7 gw_617 ?_
    refine ee_lcmp dHeadReader_isTileSide_10 ?_
    refine ee_if_gt (tgt := 18) dHeadReader_isTileSide_11 (by decide) (fun h11 => ?_) (fun h11 => ?_)
    · refine ee_iconst (v := (0 : Int32)) dHeadReader_isTileSide_18 (by decide) ?_
      exact ee_zret rfl dHeadReader_isTileSide_19
    · refine ee_iconst (v := (1 : Int32)) dHeadReader_isTileSide_14 (by decide) ?_
      refine ee_goto (tgt := 19) dHeadReader_isTileSide_15 (by decide) ?_
      exact ee_zret rfl dHeadReader_isTileSide_19
def fHeadReader_keepSides (l0 : Nat) (l1 : Int32) (w : PW) : PX := (p_getR w l0 3 0).bind fun v1 => (p_obj w v1 2).bind fun _ => p_call (fBytes_number v1 (l1 + (6 : Int32)) (4 : Int32) w) <| p_kJ fun v9 w9 => (p_getR w9 l0 3 0).bind fun v14 => (p_obj w9 v14 2).bind fun _ => p_call (fBytes_number v14 (l1 + (10 : Int32)) (4 : Int32) w9) <| p_kJ fun v22 w22 => (p_getR w22 l0 3 0).bind fun v28 => (p_obj w22 v28 2).bind fun _ => p_call (fBytes_number v28 (l1 + (22 : Int32)) (4 : Int32) w22) <| p_kJ fun v36 w36 => (p_getR w36 l0 3 0).bind fun v42 => (p_obj w36 v42 2).bind fun _ => p_call (fBytes_number v42 (l1 + (26 : Int32)) (4 : Int32) w36) <| p_kJ fun v50 w50 => p_call (fW_isWithin (0 : Int32) v9 w50) <| p_kI fun v57 w57 => if v57 = 0 then (p_retZ (0 : Int32) w57) else (p_call (fW_isWithin (1 : Int32) v22 w57) <| p_kI fun v66 w66 => if v66 = 0 then (p_retZ (0 : Int32) w66) else (p_call (fHeadReader_isTileSide v36 w66) <| p_kI fun v74 w74 => if v74 = 0 then (p_retZ (0 : Int32) w74) else (p_call (fHeadReader_isTileSide v50 w74) <| p_kI fun v82 w82 => if ¬ v82 = 0 then ((p_getR w82 l0 3 1).bind fun v91 => (p_getR w82 v91 7 0).bind fun v94 => (p_ast w82 v94 0 (0 : Int32) (Int64.toInt32 v9)).bind fun w100 => (p_getR w100 l0 3 1).bind fun v102 => (p_getR w100 v102 7 0).bind fun v105 => (p_ast w100 v105 0 (1 : Int32) (Int64.toInt32 v22)).bind fun w112 => (p_getR w112 l0 3 1).bind fun v114 => (p_put w112 v114 7 5 (.int (Int64.toInt32 v36))).bind fun w120 => (p_getR w120 l0 3 1).bind fun v124 => (p_put w120 v124 7 6 (.int (Int64.toInt32 v50))).bind fun w130 => (p_getR w130 l0 3 1).bind fun v134 => (p_obj w130 v134 7).bind fun _ => p_call (fSettings_tiles v134 w130) <| p_kI fun v137 w137 => if (24 : Int32) < v137 then (p_retZ (0 : Int32) w137) else (p_retZ (1 : Int32) w137)) else (p_retZ (0 : Int32) w82))))
set_option maxRecDepth 20000 in
set_option maxHeartbeats 2000000 in
theorem t_fHeadReader_keepSides {Γ : PG} : ∀ (l0 : Nat) (l1 : Int32) (w : PW), EE Γ MHeadReader_keepSides 0 (lv_args 0 [.ref l0, .int l1]) [] w (fHeadReader_keepSides l0 l1 w) := by
  intro l0 l1 w
  unfold fHeadReader_keepSides
  show EE Γ MHeadReader_keepSides 0 [(0, .ref l0), (1, .int l1)] [] w _
  refine ee_aload_n 0 dHeadReader_keepSides_0 rfl ?_
  refine ee_getR dHeadReader_keepSides_1 lfHeadReader_15 (fun v1 _ => ?_)
  refine ee_iload_n 1 dHeadReader_keepSides_4 rfl ?_
  refine ee_bipush (v := (6 : Int32)) dHeadReader_keepSides_5 (by decide) ?_
  refine ee_iadd dHeadReader_keepSides_7 ?_
  refine ee_iconst (v := (4 : Int32)) dHeadReader_keepSides_8 (by decide) ?_
  refine ee_bind (fun _ ho9 => ?_)
  refine ee_callV (as := [.int (l1 + (6 : Int32)), .int (4 : Int32)]) (st := []) dHeadReader_keepSides_9 (t_fBytes_number v1 (l1 + (6 : Int32)) (4 : Int32) w) my_fBytes_number.1 (Nat.le_of_ble_eq_true rfl) my_fBytes_number.2 rfl cf_2.1 rfl (p_obj_eq.mp ho9) gw_598 gw_538 gw_539 ⟨Nat.le_of_ble_eq_true rfl, Nat.le_of_ble_eq_true rfl⟩ (Nat.le_of_ble_eq_true rfl) (fun rv9 w9 _ => ?_)
  refine ee_kJ (fun v9 => ?_)
  refine ee_lstore_n (lv2 := [(2, .long v9), (0, .ref l0), (1, .int l1)]) dHeadReader_keepSides_12 (Nat.le_of_ble_eq_true rfl) rfl ?_
  refine ee_aload_n 1 dHeadReader_keepSides_13 rfl ?_
  refine ee_getR dHeadReader_keepSides_14 lfHeadReader_15 (fun v14 _ => ?_)
  refine ee_iload_n 2 dHeadReader_keepSides_17 rfl ?_
  refine ee_bipush (v := (10 : Int32)) dHeadReader_keepSides_18 (by decide) ?_
  refine ee_iadd dHeadReader_keepSides_20 ?_
  refine ee_iconst (v := (4 : Int32)) dHeadReader_keepSides_21 (by decide) ?_
  refine ee_bind (fun _ ho22 => ?_)
  refine ee_callV (as := [.int (l1 + (10 : Int32)), .int (4 : Int32)]) (st := []) dHeadReader_keepSides_22 (t_fBytes_number v14 (l1 + (10 : Int32)) (4 : Int32) w9) my_fBytes_number.1 (Nat.le_of_ble_eq_true rfl) my_fBytes_number.2 rfl cf_2.1 rfl (p_obj_eq.mp ho22) gw_598 gw_538 gw_539 ⟨Nat.le_of_ble_eq_true rfl, Nat.le_of_ble_eq_true rfl⟩ (Nat.le_of_ble_eq_true rfl) (fun rv22 w22 _ => ?_)
  refine ee_kJ (fun v22 => ?_)
  refine ee_lstore (lv2 := [(4, .long v22), (2, .long v9), (0, .ref l0), (1, .int l1)]) dHeadReader_keepSides_25 (Nat.le_of_ble_eq_true rfl) rfl ?_
  refine ee_aload_n 2 dHeadReader_keepSides_27 rfl ?_
  refine ee_getR dHeadReader_keepSides_28 lfHeadReader_15 (fun v28 _ => ?_)
  refine ee_iload_n 3 dHeadReader_keepSides_31 rfl ?_
  refine ee_bipush (v := (22 : Int32)) dHeadReader_keepSides_32 (by decide) ?_
  refine ee_iadd dHeadReader_keepSides_34 ?_
  refine ee_iconst (v := (4 : Int32)) dHeadReader_keepSides_35 (by decide) ?_
  refine ee_bind (fun _ ho36 => ?_)
  refine ee_callV (as := [.int (l1 + (22 : Int32)), .int (4 : Int32)]) (st := []) dHeadReader_keepSides_36 (t_fBytes_number v28 (l1 + (22 : Int32)) (4 : Int32) w22) my_fBytes_number.1 (Nat.le_of_ble_eq_true rfl) my_fBytes_number.2 rfl cf_2.1 rfl (p_obj_eq.mp ho36) gw_598 gw_538 gw_539 ⟨Nat.le_of_ble_eq_true rfl, Nat.le_of_ble_eq_true rfl⟩ (Nat.le_of_ble_eq_true rfl) (fun rv36 w36 _ => ?_)
  refine ee_kJ (fun v36 => ?_)
  refine ee_lstore (lv2 := [(6, .long v36), (4, .long v22), (2, .long v9), (0, .ref l0), (1, .int l1)]) dHeadReader_keepSides_39 (Nat.le_of_ble_eq_true rfl) rfl ?_
  refine ee_aload_n 3 dHeadReader_keepSides_41 rfl ?_
  refine ee_getR dHeadReader_keepSides_42 lfHeadReader_15 (fun v42 _ => ?_)
  refine ee_iload_n 4 dHeadReader_keepSides_45 rfl ?_
  refine ee_bipush (v := (26 : Int32)) dHeadReader_keepSides_46 (by decide) ?_
  refine ee_iadd dHeadReader_keepSides_48 ?_
  refine ee_iconst (v := (4 : Int32)) dHeadReader_keepSides_49 (by decide) ?_
  refine ee_bind (fun _ ho50 => ?_)
  refine ee_callV (as := [.int (l1 + (26 : Int32)), .int (4 : Int32)]) (st := []) dHeadReader_keepSides_50 (t_fBytes_number v42 (l1 + (26 : Int32)) (4 : Int32) w36) my_fBytes_number.1 (Nat.le_of_ble_eq_true rfl) my_fBytes_number.2 rfl cf_2.1 rfl (p_obj_eq.mp ho50) gw_598 gw_538 gw_539 ⟨Nat.le_of_ble_eq_true rfl, Nat.le_of_ble_eq_true rfl⟩ (Nat.le_of_ble_eq_true rfl) (fun rv50 w50 _ => ?_)
  refine ee_kJ (fun v50 => ?_)
  refine ee_lstore (lv2 := [(8, .long v50), (6, .long v36), (4, .long v22), (2, .long v9), (0, .ref l0), (1, .int l1)]) dHeadReader_keepSides_53 (Nat.le_of_ble_eq_true rfl) rfl ?_
  refine ee_iconst (v := (0 : Int32)) dHeadReader_keepSides_55 (by decide) ?_
  refine ee_lload_n 3 dHeadReader_keepSides_56 rfl ?_
  refine ee_callSN (as := [.int (0 : Int32), .long v9]) (st := []) dHeadReader_keepSides_57 (t_fW_isWithin (0 : Int32) v9 w50) my_fW_isWithin.1 (Nat.le_of_ble_eq_true rfl) my_fW_isWithin.2 rfl gw_603 gw_604 ⟨Nat.le_of_ble_eq_true rfl, Nat.le_of_ble_eq_true rfl⟩ (Nat.le_of_ble_eq_true rfl) (fun rv57 w57 _ => ?_)
  refine ee_kI (fun v57 => ?_)
  refine ee_if_eq (tgt := 88) dHeadReader_keepSides_60 (by decide) (fun h60 => ?_) (fun h60 => ?_)
  · refine ee_iconst (v := (0 : Int32)) dHeadReader_keepSides_88 (by decide) ?_
    exact ee_zret rfl dHeadReader_keepSides_89
  · refine ee_iconst (v := (1 : Int32)) dHeadReader_keepSides_63 (by decide) ?_
    refine ee_lload 2 dHeadReader_keepSides_64 rfl ?_
    refine ee_callSN (as := [.int (1 : Int32), .long v22]) (st := []) dHeadReader_keepSides_66 (t_fW_isWithin (1 : Int32) v22 w57) my_fW_isWithin.1 (Nat.le_of_ble_eq_true rfl) my_fW_isWithin.2 rfl gw_603 gw_604 ⟨Nat.le_of_ble_eq_true rfl, Nat.le_of_ble_eq_true rfl⟩ (Nat.le_of_ble_eq_true rfl) (fun rv66 w66 _ => ?_)
    refine ee_kI (fun v66 => ?_)
    refine ee_if_eq (tgt := 88) dHeadReader_keepSides_69 (by decide) (fun h69 => ?_) (fun h69 => ?_)
    · refine ee_iconst (v := (0 : Int32)) dHeadReader_keepSides_88 (by decide) ?_
      exact ee_zret rfl dHeadReader_keepSides_89
    · refine ee_lload 1 dHeadReader_keepSides_72 rfl ?_
      refine ee_callS (as := [.long v36]) (st := []) dHeadReader_keepSides_74 (t_fHeadReader_isTileSide v36 w66) my_fHeadReader_isTileSide.1 (Nat.le_of_ble_eq_true rfl) my_fHeadReader_isTileSide.2 rfl gw_614 gw_615 ⟨Nat.le_of_ble_eq_true rfl, Nat.le_of_ble_eq_true rfl⟩ (Nat.le_of_ble_eq_true rfl) (fun rv74 w74 _ => ?_)
      refine ee_kI (fun v74 => ?_)
      refine ee_if_eq (tgt := 88) dHeadReader_keepSides_77 (by decide) (fun h77 => ?_) (fun h77 => ?_)
      · refine ee_iconst (v := (0 : Int32)) dHeadReader_keepSides_88 (by decide) ?_
        exact ee_zret rfl dHeadReader_keepSides_89
      · refine ee_lload 0 dHeadReader_keepSides_80 rfl ?_
        refine ee_callS (as := [.long v50]) (st := []) dHeadReader_keepSides_82 (t_fHeadReader_isTileSide v50 w74) my_fHeadReader_isTileSide.1 (Nat.le_of_ble_eq_true rfl) my_fHeadReader_isTileSide.2 rfl gw_614 gw_615 ⟨Nat.le_of_ble_eq_true rfl, Nat.le_of_ble_eq_true rfl⟩ (Nat.le_of_ble_eq_true rfl) (fun rv82 w82 _ => ?_)
        refine ee_kI (fun v82 => ?_)
        refine ee_if_ne (tgt := 90) dHeadReader_keepSides_85 (by decide) (fun h85 => ?_) (fun h85 => ?_)
        · refine ee_aload_n 4 dHeadReader_keepSides_90 rfl ?_
          refine ee_getR dHeadReader_keepSides_91 lfHeadReader_19 (fun v91 _ => ?_)
          refine ee_getR dHeadReader_keepSides_94 lfHeadReader_69 (fun v94 _ => ?_)
          refine ee_iconst (v := (0 : Int32)) dHeadReader_keepSides_97 (by decide) ?_
          refine ee_lload_n 3 dHeadReader_keepSides_98 rfl ?_
          refine ee_l2i dHeadReader_keepSides_99 ?_
          refine ee_iast (t := 0) dHeadReader_keepSides_100 rfl (fun w100 _ => ?_)
          refine ee_aload_n 4 dHeadReader_keepSides_101 rfl ?_
          refine ee_getR dHeadReader_keepSides_102 lfHeadReader_19 (fun v102 _ => ?_)
          refine ee_getR dHeadReader_keepSides_105 lfHeadReader_69 (fun v105 _ => ?_)
          refine ee_iconst (v := (1 : Int32)) dHeadReader_keepSides_108 (by decide) ?_
          refine ee_lload 2 dHeadReader_keepSides_109 rfl ?_
          refine ee_l2i dHeadReader_keepSides_111 ?_
          refine ee_iast (t := 0) dHeadReader_keepSides_112 rfl (fun w112 _ => ?_)
          refine ee_aload_n 4 dHeadReader_keepSides_113 rfl ?_
          refine ee_getR dHeadReader_keepSides_114 lfHeadReader_19 (fun v114 _ => ?_)
          refine ee_lload 1 dHeadReader_keepSides_117 rfl ?_
          refine ee_l2i dHeadReader_keepSides_119 ?_
          refine ee_put dHeadReader_keepSides_120 lpHeadReader_73 (ee_nI _) (fun w120 _ => ?_)
          refine ee_aload_n 4 dHeadReader_keepSides_123 rfl ?_
          refine ee_getR dHeadReader_keepSides_124 lfHeadReader_19 (fun v124 _ => ?_)
          refine ee_lload 0 dHeadReader_keepSides_127 rfl ?_
          refine ee_l2i dHeadReader_keepSides_129 ?_
          refine ee_put dHeadReader_keepSides_130 lpHeadReader_76 (ee_nI _) (fun w130 _ => ?_)
          refine ee_aload_n 4 dHeadReader_keepSides_133 rfl ?_
          refine ee_getR dHeadReader_keepSides_134 lfHeadReader_19 (fun v134 _ => ?_)
          refine ee_bind (fun _ ho137 => ?_)
          refine ee_callV (as := []) (st := []) dHeadReader_keepSides_137 (t_fSettings_tiles v134 w130) my_fSettings_tiles.1 (Nat.le_of_ble_eq_true rfl) my_fSettings_tiles.2 rfl cf_7.1 rfl (p_obj_eq.mp ho137) gw_618 gw_619 gw_620 ⟨Nat.le_of_ble_eq_true rfl, Nat.le_of_ble_eq_true rfl⟩ (Nat.le_of_ble_eq_true rfl) (fun rv137 w137 _ => ?_)
          refine ee_kI (fun v137 => ?_)
          refine ee_bipush (v := (24 : Int32)) dHeadReader_keepSides_140 (by decide) ?_
          refine ee_icmp_gt (tgt := 149) dHeadReader_keepSides_142 (by decide) (fun h142 => ?_) (fun h142 => ?_)
          · refine ee_iconst (v := (0 : Int32)) dHeadReader_keepSides_149 (by decide) ?_
            exact ee_zret rfl dHeadReader_keepSides_150
          · refine ee_iconst (v := (1 : Int32)) dHeadReader_keepSides_145 (by decide) ?_
            refine ee_goto (tgt := 150) dHeadReader_keepSides_146 (by decide) ?_
            exact ee_zret rfl dHeadReader_keepSides_150
        · refine ee_iconst (v := (0 : Int32)) dHeadReader_keepSides_88 (by decide) ?_
          exact ee_zret rfl dHeadReader_keepSides_89
