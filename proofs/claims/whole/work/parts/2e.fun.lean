def fPartReader_wholePackets_4 : Nat → Nat → Int32 → Int32 → PW → PX
  | 0, _, _, _, _ => none
  | n9 + 1, l0, l1, l2, w => (p_getI w l0 6 12).bind fun v6 => if v6 ≤ l2 then (some (.inl (some (.int l1)), w)) else ((p_getR w l0 6 7).bind fun v14 => (p_ald w v14 0 l2).bind fun v18 => p_let ((l1 + v18)) fun (l1_20 : Int32) => p_let (l2 + (1 : Int32)) fun (l2_21 : Int32) => (fPartReader_wholePackets_4 n9) l0 l1_20 l2_21 w)
set_option maxRecDepth 20000 in
set_option maxHeartbeats 2000000 in
theorem t_fPartReader_wholePackets_4 {Γ : PG} : ∀ (n9 : Nat) (l0 : Nat) (l1 : Int32) (l2 : Int32) (w : PW), EE Γ MPartReader_wholePackets 4 [(0, .ref l0), (1, .int l1), (2, .int l2)] [] w (fPartReader_wholePackets_4 n9 l0 l1 l2 w) := by
  intro n9
  induction n9 with
  | zero => intro l0 l1 l2 w; exact ee_none
  | succ n9 ih =>
    intro l0 l1 l2 w
    unfold fPartReader_wholePackets_4
    refine ee_iload_n 2 dPartReader_wholePackets_4 rfl ?_
    refine ee_aload_n 0 dPartReader_wholePackets_5 rfl ?_
    refine ee_getI dPartReader_wholePackets_6 lfPartReader_41 (fun v6 _ => ?_)
    refine ee_icmp_ge (tgt := 27) dPartReader_wholePackets_9 (by decide) (fun h9 => ?_) (fun h9 => ?_)
    · refine ee_iload_n 1 dPartReader_wholePackets_27 rfl ?_
      exact ee_iret rfl dPartReader_wholePackets_28
    · refine ee_iload_n 1 dPartReader_wholePackets_12 rfl ?_
      refine ee_aload_n 0 dPartReader_wholePackets_13 rfl ?_
      refine ee_getR dPartReader_wholePackets_14 lfPartReader_24 (fun v14 _ => ?_)
      refine ee_iload_n 2 dPartReader_wholePackets_17 rfl ?_
      refine ee_iald (t := 0) dPartReader_wholePackets_18 rfl (fun v18 _ => ?_)
      refine ee_iadd dPartReader_wholePackets_19 ?_
      refine ee_letI (fun l1_20 _ => ?_)
      refine ee_istore_n (lv2 := [(1, .int l1_20), (0, .ref l0), (2, .int l2)]) dPartReader_wholePackets_20 (Nat.le_of_ble_eq_true rfl) rfl ?_
      refine ee_iinc 2 dPartReader_wholePackets_21 rfl (e := (1 : Int32)) (by decide) (Nat.le_of_ble_eq_true rfl) (fun l2_21 _ => ?_)
      refine ee_lv (lv2 := [(2, .int l2_21), (1, .int l1_20), (0, .ref l0)]) rfl ?_
      refine ee_goto (tgt := 4) dPartReader_wholePackets_24 (by decide) ?_
      refine ee_pick [2, 1, 0] rfl ?_
      exact ih _ _ _ w
def fPartReader_wholePackets (l0 : Nat) (w : PW) : PX := fPartReader_wholePackets_4 FUEL l0 (0 : Int32) (0 : Int32) w
set_option maxRecDepth 20000 in
set_option maxHeartbeats 2000000 in
theorem t_fPartReader_wholePackets {Γ : PG} : ∀ (l0 : Nat) (w : PW), EE Γ MPartReader_wholePackets 0 (lv_args 0 [.ref l0]) [] w (fPartReader_wholePackets l0 w) := by
  intro l0 w
  unfold fPartReader_wholePackets
  show EE Γ MPartReader_wholePackets 0 [(0, .ref l0)] [] w _
  refine ee_iconst (v := (0 : Int32)) dPartReader_wholePackets_0 (by decide) ?_
  refine ee_istore_n (lv2 := [(1, .int (0 : Int32)), (0, .ref l0)]) dPartReader_wholePackets_1 (Nat.le_of_ble_eq_true rfl) rfl ?_
  refine ee_iconst (v := (0 : Int32)) dPartReader_wholePackets_2 (by decide) ?_
  refine ee_istore_n (lv2 := [(2, .int (0 : Int32)), (1, .int (0 : Int32)), (0, .ref l0)]) dPartReader_wholePackets_3 (Nat.le_of_ble_eq_true rfl) rfl ?_
  refine ee_pick [2, 1, 0] rfl ?_
  exact t_fPartReader_wholePackets_4 FUEL _ _ _ w
def fPartReader_beginsPart (l0 : Nat) (l1 : Int32) (l2 : Int32) (w : PW) : PX := (p_getR w l0 6 2).bind fun v1 => (p_obj w v1 3).bind fun _ => p_call (fHeadReader_isCode v1 l1 l2 (144 : Int32) w) <| p_kI fun v9 w9 => if v9 = 0 then (p_retZ (0 : Int32) w9) else (if (12 : Int32) ≤ (l2 - l1) then ((p_getR w9 l0 6 0).bind fun v26 => (p_obj w9 v26 2).bind fun _ => p_call (fBytes_number v26 (l1 + (6 : Int32)) (4 : Int32) w9) <| p_kJ fun v34 w34 => if (lg_cmp v34 (0 : Int64)) = 0 then (p_retZ (1 : Int32) w34) else (if (lg_cmp v34 (14 : Int64)) < 0 then (p_retZ (0 : Int32) w34) else (p_retZ (1 : Int32) w34))) else (p_retZ (0 : Int32) w9))
set_option maxRecDepth 20000 in
set_option maxHeartbeats 2000000 in
theorem t_fPartReader_beginsPart {Γ : PG} : ∀ (l0 : Nat) (l1 : Int32) (l2 : Int32) (w : PW), EE Γ MPartReader_beginsPart 0 (lv_args 0 [.ref l0, .int l1, .int l2]) [] w (fPartReader_beginsPart l0 l1 l2 w) := by
  intro l0 l1 l2 w
  unfold fPartReader_beginsPart
  show EE Γ MPartReader_beginsPart 0 [(0, .ref l0), (1, .int l1), (2, .int l2)] [] w _
  refine ee_aload_n 0 dPartReader_beginsPart_0 rfl ?_
  refine ee_getR dPartReader_beginsPart_1 lfPartReader_52 (fun v1 _ => ?_)
  refine ee_iload_n 1 dPartReader_beginsPart_4 rfl ?_
  refine ee_iload_n 2 dPartReader_beginsPart_5 rfl ?_
  refine ee_sipush (v := (144 : Int32)) dPartReader_beginsPart_6 (by decide) ?_
  refine ee_bind (fun _ ho9 => ?_)
  refine ee_callV (as := [.int l1, .int l2, .int (144 : Int32)]) (st := []) dPartReader_beginsPart_9 (t_fHeadReader_isCode v1 l1 l2 (144 : Int32) w) my_fHeadReader_isCode.1 (Nat.le_of_ble_eq_true rfl) my_fHeadReader_isCode.2 rfl cf_3.1 rfl (p_obj_eq.mp ho9) gw_672 gw_590 gw_591 ⟨Nat.le_of_ble_eq_true rfl, Nat.le_of_ble_eq_true rfl⟩ (Nat.le_of_ble_eq_true rfl) (fun rv9 w9 _ => ?_)
  refine ee_kI (fun v9 => ?_)
  refine ee_if_eq (tgt := 23) dPartReader_beginsPart_12 (by decide) (fun h12 => ?_) (fun h12 => ?_)
  · refine ee_iconst (v := (0 : Int32)) dPartReader_beginsPart_23 (by decide) ?_
    exact ee_zret rfl dPartReader_beginsPart_24
  · refine ee_iload_n 2 dPartReader_beginsPart_15 rfl ?_
    refine ee_iload_n 1 dPartReader_beginsPart_16 rfl ?_
    refine ee_isub dPartReader_beginsPart_17 ?_
    refine ee_bipush (v := (12 : Int32)) dPartReader_beginsPart_18 (by decide) ?_
    refine ee_icmp_ge (tgt := 25) dPartReader_beginsPart_20 (by decide) (fun h20 => ?_) (fun h20 => ?_)
    · refine ee_aload_n 0 dPartReader_beginsPart_25 rfl ?_
      refine ee_getR dPartReader_beginsPart_26 lfPartReader_44 (fun v26 _ => ?_)
      refine ee_iload_n 1 dPartReader_beginsPart_29 rfl ?_
      refine ee_bipush (v := (6 : Int32)) dPartReader_beginsPart_30 (by decide) ?_
      refine ee_iadd dPartReader_beginsPart_32 ?_
      refine ee_iconst (v := (4 : Int32)) dPartReader_beginsPart_33 (by decide) ?_
      refine ee_bind (fun _ ho34 => ?_)
      refine ee_callV (as := [.int (l1 + (6 : Int32)), .int (4 : Int32)]) (st := []) dPartReader_beginsPart_34 (t_fBytes_number v26 (l1 + (6 : Int32)) (4 : Int32) w9) my_fBytes_number.1 (Nat.le_of_ble_eq_true rfl) my_fBytes_number.2 rfl cf_2.1 rfl (p_obj_eq.mp ho34) gw_673 gw_538 gw_539 ⟨Nat.le_of_ble_eq_true rfl, Nat.le_of_ble_eq_true rfl⟩ (Nat.le_of_ble_eq_true rfl) (fun rv34 w34 _ => ?_)
      refine ee_kJ (fun v34 => ?_)
      refine ee_lstore_n (lv2 := [(3, .long v34), (0, .ref l0), (1, .int l1), (2, .int l2)]) dPartReader_beginsPart_37 (Nat.le_of_ble_eq_true rfl) rfl ?_
      refine ee_lload_n 0 dPartReader_beginsPart_38 rfl ?_
      refine ee_lconst (v := (0 : Int64)) dPartReader_beginsPart_39 (by decide) ?_
      refine ee_lcmp dPartReader_beginsPart_40 ?_
      refine ee_if_eq (tgt := 52) dPartReader_beginsPart_41 (by decide) (fun h41 => ?_) (fun h41 => ?_)
      · refine ee_iconst (v := (1 : Int32)) dPartReader_beginsPart_52 (by decide) ?_
        refine ee_goto (tgt := 57) dPartReader_beginsPart_53 (by decide) ?_
        exact ee_zret rfl dPartReader_beginsPart_57
      · refine ee_lload_n 0 dPartReader_beginsPart_44 rfl ?_
        refine ee_ldc2 (v := (14 : Int64)) dPartReader_beginsPart_45 gw_674 ?_
        refine ee_lcmp dPartReader_beginsPart_48 ?_
        refine ee_if_lt (tgt := 56) dPartReader_beginsPart_49 (by decide) (fun h49 => ?_) (fun h49 => ?_)
        · refine ee_iconst (v := (0 : Int32)) dPartReader_beginsPart_56 (by decide) ?_
          exact ee_zret rfl dPartReader_beginsPart_57
        · refine ee_iconst (v := (1 : Int32)) dPartReader_beginsPart_52 (by decide) ?_
          refine ee_goto (tgt := 57) dPartReader_beginsPart_53 (by decide) ?_
          exact ee_zret rfl dPartReader_beginsPart_57
    · refine ee_iconst (v := (0 : Int32)) dPartReader_beginsPart_23 (by decide) ?_
      exact ee_zret rfl dPartReader_beginsPart_24
def fPartReader_keepLengths_16 : Nat → Nat → Int32 → Int32 → Int32 → PW → PX
  | 0, _, _, _, _, _ => none
  | n9 + 1, l0, l2, l3, l4, w => if l2 ≤ l4 then (p_retZ (1 : Int32) w) else ((p_getR w l0 6 0).bind fun v23 => (p_obj w v23 2).bind fun _ => p_call (fBytes_get v23 l4 w) <| p_kI fun v28 w28 => (p_irem v28 (128 : Int32)).bind fun v48 => p_let ((((p_min l3 (100001 : Int32)) * (128 : Int32)) + v48)) fun (l3_50 : Int32) => if (128 : Int32) ≤ v28 then (p_let (l4 + (1 : Int32)) fun (l4_99 : Int32) => (fPartReader_keepLengths_16 n9) l0 l2 l3_50 l4_99 w28) else (if (100000 : Int32) < l3_50 then (p_retZ (0 : Int32) w28) else ((p_getI w28 l0 6 11).bind fun v66 => if v66 < (200 : Int32) then ((p_getR w28 l0 6 10).bind fun v78 => (p_getI w28 l0 6 11).bind fun v82 => (p_ast w28 v78 0 v82 l3_50).bind fun w86 => (p_getI w86 l0 6 11).bind fun v89 => (p_put w86 l0 6 11 (.int (v89 + (1 : Int32)))).bind fun w94 => p_let (l4 + (1 : Int32)) fun (l4_99 : Int32) => (fPartReader_keepLengths_16 n9) l0 l2 (0 : Int32) l4_99 w94) else (p_retZ (0 : Int32) w28))))
set_option maxRecDepth 20000 in
set_option maxHeartbeats 2000000 in
theorem t_fPartReader_keepLengths_16 {Γ : PG} : ∀ (n9 : Nat) (l0 : Nat) (l2 : Int32) (l3 : Int32) (l4 : Int32) (w : PW), EE Γ MPartReader_keepLengths 16 [(0, .ref l0), (2, .int l2), (3, .int l3), (4, .int l4)] [] w (fPartReader_keepLengths_16 n9 l0 l2 l3 l4 w) := by
  intro n9
  induction n9 with
  | zero => intro l0 l2 l3 l4 w; exact ee_none
  | succ n9 ih =>
    intro l0 l2 l3 l4 w
    unfold fPartReader_keepLengths_16
    refine ee_iload 3 dPartReader_keepLengths_16 rfl ?_
    refine ee_iload_n 1 dPartReader_keepLengths_18 rfl ?_
    refine ee_icmp_ge (tgt := 105) dPartReader_keepLengths_19 (by decide) (fun h19 => ?_) (fun h19 => ?_)
    · refine ee_iconst (v := (1 : Int32)) dPartReader_keepLengths_105 (by decide) ?_
      exact ee_zret rfl dPartReader_keepLengths_106
    · refine ee_aload_n 0 dPartReader_keepLengths_22 rfl ?_
      refine ee_getR dPartReader_keepLengths_23 lfPartReader_44 (fun v23 _ => ?_)
      refine ee_iload 3 dPartReader_keepLengths_26 rfl ?_
      refine ee_bind (fun _ ho28 => ?_)
      refine ee_callV (as := [.int l4]) (st := []) dPartReader_keepLengths_28 (t_fBytes_get v23 l4 w) my_fBytes_get.1 (Nat.le_of_ble_eq_true rfl) my_fBytes_get.2 rfl cf_2.1 rfl (p_obj_eq.mp ho28) gw_685 gw_459 gw_460 ⟨Nat.le_of_ble_eq_true rfl, Nat.le_of_ble_eq_true rfl⟩ (Nat.le_of_ble_eq_true rfl) (fun rv28 w28 _ => ?_)
      refine ee_kI (fun v28 => ?_)
      refine ee_istore (lv2 := [(5, .int v28), (0, .ref l0), (2, .int l2), (3, .int l3), (4, .int l4)]) dPartReader_keepLengths_31 (Nat.le_of_ble_eq_true rfl) rfl ?_
      refine ee_iload_n 3 dPartReader_keepLengths_33 rfl ?_
      refine ee_ldc (v := (100001 : Int32)) dPartReader_keepLengths_34 gw_698 ?_
      refine ee_mmin dPartReader_keepLengths_36 gw_699 gw_mmins gw_mi gw_mminc ⟨Nat.le_of_ble_eq_true rfl, Nat.le_of_ble_eq_true rfl⟩ ?_
      refine ee_sipush (v := (128 : Int32)) dPartReader_keepLengths_39 (by decide) ?_
      refine ee_imul dPartReader_keepLengths_42 ?_
      refine ee_iload 0 dPartReader_keepLengths_43 rfl ?_
      refine ee_sipush (v := (128 : Int32)) dPartReader_keepLengths_45 (by decide) ?_
      refine ee_irem dPartReader_keepLengths_48 (fun v48 _ => ?_)
      refine ee_iadd dPartReader_keepLengths_49 ?_
      refine ee_letI (fun l3_50 _ => ?_)
      refine ee_istore_n (lv2 := [(3, .int l3_50), (5, .int v28), (0, .ref l0), (2, .int l2), (4, .int l4)]) dPartReader_keepLengths_50 (Nat.le_of_ble_eq_true rfl) rfl ?_
      refine ee_iload 1 dPartReader_keepLengths_51 rfl ?_
      refine ee_sipush (v := (128 : Int32)) dPartReader_keepLengths_53 (by decide) ?_
      refine ee_icmp_ge (tgt := 99) dPartReader_keepLengths_56 (by decide) (fun h56 => ?_) (fun h56 => ?_)
      · refine ee_iinc 4 dPartReader_keepLengths_99 rfl (e := (1 : Int32)) (by decide) (Nat.le_of_ble_eq_true rfl) (fun l4_99 _ => ?_)
        refine ee_lv (lv2 := [(4, .int l4_99), (3, .int l3_50), (5, .int v28), (0, .ref l0), (2, .int l2)]) rfl ?_
        refine ee_goto (tgt := 16) dPartReader_keepLengths_102 (by decide) ?_
        refine ee_pick [3, 4, 1, 0] rfl ?_
        exact ih _ _ _ _ w28
      · refine ee_iload_n 0 dPartReader_keepLengths_59 rfl ?_
        refine ee_ldc (v := (100000 : Int32)) dPartReader_keepLengths_60 gw_700 ?_
        refine ee_icmp_gt (tgt := 75) dPartReader_keepLengths_62 (by decide) (fun h62 => ?_) (fun h62 => ?_)
        · refine ee_iconst (v := (0 : Int32)) dPartReader_keepLengths_75 (by decide) ?_
          exact ee_zret rfl dPartReader_keepLengths_76
        · refine ee_aload_n 2 dPartReader_keepLengths_65 rfl ?_
          refine ee_getI dPartReader_keepLengths_66 lfPartReader_37 (fun v66 _ => ?_)
          refine ee_sipush (v := (200 : Int32)) dPartReader_keepLengths_69 (by decide) ?_
          refine ee_icmp_lt (tgt := 77) dPartReader_keepLengths_72 (by decide) (fun h72 => ?_) (fun h72 => ?_)
          · refine ee_aload_n 2 dPartReader_keepLengths_77 rfl ?_
            refine ee_getR dPartReader_keepLengths_78 lfPartReader_34 (fun v78 _ => ?_)
            refine ee_aload_n 2 dPartReader_keepLengths_81 rfl ?_
            refine ee_getI dPartReader_keepLengths_82 lfPartReader_37 (fun v82 _ => ?_)
            refine ee_iload_n 0 dPartReader_keepLengths_85 rfl ?_
            refine ee_iast (t := 0) dPartReader_keepLengths_86 rfl (fun w86 _ => ?_)
            refine ee_aload_n 2 dPartReader_keepLengths_87 rfl ?_
            refine ee_dup dPartReader_keepLengths_88 rfl ?_
            refine ee_getI dPartReader_keepLengths_89 lfPartReader_37 (fun v89 _ => ?_)
            refine ee_iconst (v := (1 : Int32)) dPartReader_keepLengths_92 (by decide) ?_
            refine ee_iadd dPartReader_keepLengths_93 ?_
            refine ee_put dPartReader_keepLengths_94 lpPartReader_37 (ee_nI _) (fun w94 _ => ?_)
            refine ee_iconst (v := (0 : Int32)) dPartReader_keepLengths_97 (by decide) ?_
            refine ee_istore_n (lv2 := [(3, .int (0 : Int32)), (5, .int v28), (0, .ref l0), (2, .int l2), (4, .int l4)]) dPartReader_keepLengths_98 (Nat.le_of_ble_eq_true rfl) rfl ?_
            refine ee_iinc 4 dPartReader_keepLengths_99 rfl (e := (1 : Int32)) (by decide) (Nat.le_of_ble_eq_true rfl) (fun l4_99 _ => ?_)
            refine ee_lv (lv2 := [(4, .int l4_99), (3, .int (0 : Int32)), (5, .int v28), (0, .ref l0), (2, .int l2)]) rfl ?_
            refine ee_goto (tgt := 16) dPartReader_keepLengths_102 (by decide) ?_
            refine ee_pick [3, 4, 1, 0] rfl ?_
            exact ih _ _ _ _ w94
          · refine ee_iconst (v := (0 : Int32)) dPartReader_keepLengths_75 (by decide) ?_
            exact ee_zret rfl dPartReader_keepLengths_76
def fPartReader_keepLengths (l0 : Nat) (l1 : Int32) (l2 : Int32) (w : PW) : PX := if (5 : Int32) ≤ (l2 - l1) then (p_let ((l1 + (5 : Int32))) fun (l4_14 : Int32) => fPartReader_keepLengths_16 FUEL l0 l2 (0 : Int32) l4_14 w) else (p_retZ (0 : Int32) w)
set_option maxRecDepth 20000 in
set_option maxHeartbeats 2000000 in
theorem t_fPartReader_keepLengths {Γ : PG} : ∀ (l0 : Nat) (l1 : Int32) (l2 : Int32) (w : PW), EE Γ MPartReader_keepLengths 0 (lv_args 0 [.ref l0, .int l1, .int l2]) [] w (fPartReader_keepLengths l0 l1 l2 w) := by
  intro l0 l1 l2 w
  unfold fPartReader_keepLengths
  show EE Γ MPartReader_keepLengths 0 [(0, .ref l0), (1, .int l1), (2, .int l2)] [] w _
  refine ee_iload_n 2 dPartReader_keepLengths_0 rfl ?_
  refine ee_iload_n 1 dPartReader_keepLengths_1 rfl ?_
  refine ee_isub dPartReader_keepLengths_2 ?_
  refine ee_iconst (v := (5 : Int32)) dPartReader_keepLengths_3 (by decide) ?_
  refine ee_icmp_ge (tgt := 9) dPartReader_keepLengths_4 (by decide) (fun h4 => ?_) (fun h4 => ?_)
  · refine ee_iconst (v := (0 : Int32)) dPartReader_keepLengths_9 (by decide) ?_
    refine ee_istore_n (lv2 := [(3, .int (0 : Int32)), (0, .ref l0), (1, .int l1), (2, .int l2)]) dPartReader_keepLengths_10 (Nat.le_of_ble_eq_true rfl) rfl ?_
    refine ee_iload_n 2 dPartReader_keepLengths_11 rfl ?_
    refine ee_iconst (v := (5 : Int32)) dPartReader_keepLengths_12 (by decide) ?_
    refine ee_iadd dPartReader_keepLengths_13 ?_
    refine ee_letI (fun l4_14 _ => ?_)
    refine ee_istore (lv2 := [(4, .int l4_14), (3, .int (0 : Int32)), (0, .ref l0), (1, .int l1), (2, .int l2)]) dPartReader_keepLengths_14 (Nat.le_of_ble_eq_true rfl) rfl ?_
    refine ee_pick [2, 4, 1, 0] rfl ?_
    exact t_fPartReader_keepLengths_16 FUEL _ _ _ _ w
  · refine ee_iconst (v := (0 : Int32)) dPartReader_keepLengths_7 (by decide) ?_
    exact ee_zret rfl dPartReader_keepLengths_8
def fPartReader_readPartHead_140 (k_11 : Nat → Int32 → Int32 → Int32 → Int32 → PW → PX) (l0 : Nat) (l2 : Int32) (l3 : Int32) (l5 : Int32) (l6 : Int32) (s0 : Int32) (w : PW) : PX := if ¬ s0 = 0 then (p_let (l5 + (1 : Int32)) fun (l5_153 : Int32) => k_11 l0 l2 l3 l6 l5_153 w) else (some (.inl (some (.int (-1 : Int32))), w))
set_option maxRecDepth 20000 in
set_option maxHeartbeats 2000000 in
theorem t_fPartReader_readPartHead_140 {Γ : PG} {k_11 : Nat → Int32 → Int32 → Int32 → Int32 → PW → PX} (hk_11 : ∀ (l0 : Nat) (l2 : Int32) (l3 : Int32) (l4 : Int32) (l5 : Int32) (w : PW), EE Γ MPartReader_readPartHead 11 [(0, .ref l0), (2, .int l2), (3, .int l3), (4, .int l4), (5, .int l5)] [] w (k_11 l0 l2 l3 l4 l5 w)) : ∀ (l0 : Nat) (l2 : Int32) (l3 : Int32) (l5 : Int32) (l6 : Int32) (s0 : Int32) (w : PW), EE Γ MPartReader_readPartHead 140 [(0, .ref l0), (2, .int l2), (3, .int l3), (5, .int l5), (6, .int l6)] [.int s0] w (fPartReader_readPartHead_140 k_11 l0 l2 l3 l5 l6 s0 w) := by
  intro l0 l2 l3 l5 l6 s0 w
  unfold fPartReader_readPartHead_140
  refine ee_istore (lv2 := [(9, .int s0), (0, .ref l0), (2, .int l2), (3, .int l3), (5, .int l5), (6, .int l6)]) dPartReader_readPartHead_140 (Nat.le_of_ble_eq_true rfl) rfl ?_
  refine ee_iload 0 dPartReader_readPartHead_142 rfl ?_
  refine ee_if_ne (tgt := 149) dPartReader_readPartHead_144 (by decide) (fun h144 => ?_) (fun h144 => ?_)
  · refine ee_iload 5 dPartReader_readPartHead_149 rfl ?_
    refine ee_istore (lv2 := [(4, .int l6), (9, .int s0), (0, .ref l0), (2, .int l2), (3, .int l3), (5, .int l5), (6, .int l6)]) dPartReader_readPartHead_151 (Nat.le_of_ble_eq_true rfl) rfl ?_
    refine ee_iinc 5 dPartReader_readPartHead_153 rfl (e := (1 : Int32)) (by decide) (Nat.le_of_ble_eq_true rfl) (fun l5_153 _ => ?_)
    refine ee_lv (lv2 := [(5, .int l5_153), (4, .int l6), (9, .int s0), (0, .ref l0), (2, .int l2), (3, .int l3), (6, .int l6)]) rfl ?_
    refine ee_goto (tgt := 11) dPartReader_readPartHead_156 (by decide) ?_
    refine ee_pick [3, 4, 5, 1, 0] rfl ?_
    exact hk_11 _ _ _ _ _ w
  · refine ee_iconst (v := (-1 : Int32)) dPartReader_readPartHead_147 (by decide) ?_
    exact ee_iret rfl dPartReader_readPartHead_148
def fPartReader_readPartHead_95 (k_11 : Nat → Int32 → Int32 → Int32 → Int32 → PW → PX) (l0 : Nat) (l2 : Int32) (l3 : Int32) (l4 : Int32) (l5 : Int32) (l6 : Int32) (l7 : Int32) (s0 : Int32) (w : PW) : PX := if ¬ l7 = (88 : Int32) then (if ¬ s0 = 0 then (fPartReader_readPartHead_140 k_11 l0 l2 l3 l5 l6 (0 : Int32) w) else ((p_getR w l0 6 2).bind fun v121 => (p_obj w v121 3).bind fun _ => p_call (fHeadReader_keepSegment v121 l4 l6 l3 w) <| p_kI fun v129 w129 => if v129 = 0 then (fPartReader_readPartHead_140 k_11 l0 l2 l3 l5 l6 (0 : Int32) w129) else (fPartReader_readPartHead_140 k_11 l0 l2 l3 l5 l6 (1 : Int32) w129))) else ((p_obj w l0 6).bind fun _ => p_call (fPartReader_keepLengths l0 l4 l6 w) <| p_kI fun v109 w109 => fPartReader_readPartHead_140 k_11 l0 l2 l3 l5 l6 v109 w109)
set_option maxRecDepth 20000 in
set_option maxHeartbeats 2000000 in
theorem t_fPartReader_readPartHead_95 {Γ : PG} {k_11 : Nat → Int32 → Int32 → Int32 → Int32 → PW → PX} (hk_11 : ∀ (l0 : Nat) (l2 : Int32) (l3 : Int32) (l4 : Int32) (l5 : Int32) (w : PW), EE Γ MPartReader_readPartHead 11 [(0, .ref l0), (2, .int l2), (3, .int l3), (4, .int l4), (5, .int l5)] [] w (k_11 l0 l2 l3 l4 l5 w)) : ∀ (l0 : Nat) (l2 : Int32) (l3 : Int32) (l4 : Int32) (l5 : Int32) (l6 : Int32) (l7 : Int32) (s0 : Int32) (w : PW), EE Γ MPartReader_readPartHead 95 [(0, .ref l0), (2, .int l2), (3, .int l3), (4, .int l4), (5, .int l5), (6, .int l6), (7, .int l7)] [.int s0] w (fPartReader_readPartHead_95 k_11 l0 l2 l3 l4 l5 l6 l7 s0 w) := by
  intro l0 l2 l3 l4 l5 l6 l7 s0 w
  unfold fPartReader_readPartHead_95
  refine ee_istore (lv2 := [(8, .int s0), (0, .ref l0), (2, .int l2), (3, .int l3), (4, .int l4), (5, .int l5), (6, .int l6), (7, .int l7)]) dPartReader_readPartHead_95 (Nat.le_of_ble_eq_true rfl) rfl ?_
  refine ee_iload 7 dPartReader_readPartHead_97 rfl ?_
  refine ee_bipush (v := (88 : Int32)) dPartReader_readPartHead_99 (by decide) ?_
  refine ee_icmp_ne (tgt := 115) dPartReader_readPartHead_101 (by decide) (fun h101 => ?_) (fun h101 => ?_)
  · refine ee_iload 0 dPartReader_readPartHead_115 rfl ?_
    refine ee_if_ne (tgt := 139) dPartReader_readPartHead_117 (by decide) (fun h117 => ?_) (fun h117 => ?_)
    · refine ee_iconst (v := (0 : Int32)) dPartReader_readPartHead_139 (by decide) ?_
      refine ee_pick [1, 2, 3, 5, 6] rfl ?_
      exact t_fPartReader_readPartHead_140 hk_11 _ _ _ _ _ _ w
    · refine ee_aload_n 1 dPartReader_readPartHead_120 rfl ?_
      refine ee_getR dPartReader_readPartHead_121 lfPartReader_52 (fun v121 _ => ?_)
      refine ee_iload 4 dPartReader_readPartHead_124 rfl ?_
      refine ee_iload 6 dPartReader_readPartHead_126 rfl ?_
      refine ee_iload_n 3 dPartReader_readPartHead_128 rfl ?_
      refine ee_bind (fun _ ho129 => ?_)
      refine ee_callV (as := [.int l4, .int l6, .int l3]) (st := []) dPartReader_readPartHead_129 (t_fHeadReader_keepSegment v121 l4 l6 l3 w) my_fHeadReader_keepSegment.1 (Nat.le_of_ble_eq_true rfl) my_fHeadReader_keepSegment.2 rfl cf_3.1 rfl (p_obj_eq.mp ho129) gw_701 gw_643 gw_644 ⟨Nat.le_of_ble_eq_true rfl, Nat.le_of_ble_eq_true rfl⟩ (Nat.le_of_ble_eq_true rfl) (fun rv129 w129 _ => ?_)
      refine ee_kI (fun v129 => ?_)
      refine ee_if_eq (tgt := 139) dPartReader_readPartHead_132 (by decide) (fun h132 => ?_) (fun h132 => ?_)
      · refine ee_iconst (v := (0 : Int32)) dPartReader_readPartHead_139 (by decide) ?_
        refine ee_pick [1, 2, 3, 5, 6] rfl ?_
        exact t_fPartReader_readPartHead_140 hk_11 _ _ _ _ _ _ w129
      · refine ee_iconst (v := (1 : Int32)) dPartReader_readPartHead_135 (by decide) ?_
        refine ee_goto (tgt := 140) dPartReader_readPartHead_136 (by decide) ?_
        refine ee_pick [1, 2, 3, 5, 6] rfl ?_
        exact t_fPartReader_readPartHead_140 hk_11 _ _ _ _ _ _ w129
  · refine ee_aload_n 1 dPartReader_readPartHead_104 rfl ?_
    refine ee_iload 4 dPartReader_readPartHead_105 rfl ?_
    refine ee_iload 6 dPartReader_readPartHead_107 rfl ?_
    refine ee_bind (fun _ ho109 => ?_)
    refine ee_callV (as := [.int l4, .int l6]) (st := []) dPartReader_readPartHead_109 (t_fPartReader_keepLengths l0 l4 l6 w) my_fPartReader_keepLengths.1 (Nat.le_of_ble_eq_true rfl) my_fPartReader_keepLengths.2 rfl cf_6.1 rfl (p_obj_eq.mp ho109) gw_694 gw_695 gw_696 ⟨Nat.le_of_ble_eq_true rfl, Nat.le_of_ble_eq_true rfl⟩ (Nat.le_of_ble_eq_true rfl) (fun rv109 w109 _ => ?_)
    refine ee_kI (fun v109 => ?_)
    refine ee_goto (tgt := 140) dPartReader_readPartHead_112 (by decide) ?_
    refine ee_pick [1, 2, 3, 5, 6] rfl ?_
    exact t_fPartReader_readPartHead_140 hk_11 _ _ _ _ _ _ w109
def fPartReader_readPartHead_11 : Nat → Nat → Int32 → Int32 → Int32 → Int32 → PW → PX
  | 0, _, _, _, _, _, _ => none
  | n9 + 1, l0, l2, l3, l4, l5, w => if (20000 : Int32) ≤ l5 then (some (.inl (some (.int (-1 : Int32))), w)) else ((p_getR w l0 6 2).bind fun v20 => (p_obj w v20 3).bind fun _ => p_call (fHeadReader_isCode v20 l4 l2 (147 : Int32) w) <| p_kI fun v29 w29 => if v29 = 0 then ((p_getR w29 l0 6 2).bind fun v41 => (p_obj w29 v41 3).bind fun _ => p_call (fHeadReader_segmentEnd v41 l4 l2 w29) <| p_kI fun v47 w47 => if ¬ v47 = (-1 : Int32) then ((p_getR w47 l0 6 0).bind fun v61 => (p_obj w47 v61 2).bind fun _ => p_call (fBytes_get v61 (l4 + (1 : Int32)) w47) <| p_kI fun v68 w68 => p_call (fHeadReader_isSegmentCode v68 w68) <| p_kI fun v75 w75 => if v75 = 0 then (fPartReader_readPartHead_95 (fPartReader_readPartHead_11 n9) l0 l2 l3 l4 l5 v47 v68 (0 : Int32) w75) else ((p_getR w75 l0 6 9).bind fun v82 => (p_ald w75 v82 0 l3).bind fun v86 => if v86 ≤ 0 then (fPartReader_readPartHead_95 (fPartReader_readPartHead_11 n9) l0 l2 l3 l4 l5 v47 v68 (0 : Int32) w75) else (fPartReader_readPartHead_95 (fPartReader_readPartHead_11 n9) l0 l2 l3 l4 l5 v47 v68 (1 : Int32) w75))) else (some (.inl (some (.int (-1 : Int32))), w47))) else (some (.inl (some (.int (l4 + (2 : Int32)))), w29)))
set_option maxRecDepth 20000 in
set_option maxHeartbeats 2000000 in
theorem t_fPartReader_readPartHead_11 {Γ : PG} : ∀ (n9 : Nat) (l0 : Nat) (l2 : Int32) (l3 : Int32) (l4 : Int32) (l5 : Int32) (w : PW), EE Γ MPartReader_readPartHead 11 [(0, .ref l0), (2, .int l2), (3, .int l3), (4, .int l4), (5, .int l5)] [] w (fPartReader_readPartHead_11 n9 l0 l2 l3 l4 l5 w) := by
  intro n9
  induction n9 with
  | zero => intro l0 l2 l3 l4 l5 w; exact ee_none
  | succ n9 ih =>
    intro l0 l2 l3 l4 l5 w
    unfold fPartReader_readPartHead_11
    refine ee_iload 4 dPartReader_readPartHead_11 rfl ?_
    refine ee_sipush (v := (20000 : Int32)) dPartReader_readPartHead_13 (by decide) ?_
    refine ee_icmp_ge (tgt := 159) dPartReader_readPartHead_16 (by decide) (fun h16 => ?_) (fun h16 => ?_)
    · refine ee_iconst (v := (-1 : Int32)) dPartReader_readPartHead_159 (by decide) ?_
      exact ee_iret rfl dPartReader_readPartHead_160
    · refine ee_aload_n 0 dPartReader_readPartHead_19 rfl ?_
      refine ee_getR dPartReader_readPartHead_20 lfPartReader_52 (fun v20 _ => ?_)
      refine ee_iload 3 dPartReader_readPartHead_23 rfl ?_
      refine ee_iload_n 1 dPartReader_readPartHead_25 rfl ?_
      refine ee_sipush (v := (147 : Int32)) dPartReader_readPartHead_26 (by decide) ?_
      refine ee_bind (fun _ ho29 => ?_)
      refine ee_callV (as := [.int l4, .int l2, .int (147 : Int32)]) (st := []) dPartReader_readPartHead_29 (t_fHeadReader_isCode v20 l4 l2 (147 : Int32) w) my_fHeadReader_isCode.1 (Nat.le_of_ble_eq_true rfl) my_fHeadReader_isCode.2 rfl cf_3.1 rfl (p_obj_eq.mp ho29) gw_672 gw_590 gw_591 ⟨Nat.le_of_ble_eq_true rfl, Nat.le_of_ble_eq_true rfl⟩ (Nat.le_of_ble_eq_true rfl) (fun rv29 w29 _ => ?_)
      refine ee_kI (fun v29 => ?_)
      refine ee_if_eq (tgt := 40) dPartReader_readPartHead_32 (by decide) (fun h32 => ?_) (fun h32 => ?_)
      · refine ee_aload_n 0 dPartReader_readPartHead_40 rfl ?_
        refine ee_getR dPartReader_readPartHead_41 lfPartReader_52 (fun v41 _ => ?_)
        refine ee_iload 3 dPartReader_readPartHead_44 rfl ?_
        refine ee_iload_n 1 dPartReader_readPartHead_46 rfl ?_
        refine ee_bind (fun _ ho47 => ?_)
        refine ee_callV (as := [.int l4, .int l2]) (st := []) dPartReader_readPartHead_47 (t_fHeadReader_segmentEnd v41 l4 l2 w29) my_fHeadReader_segmentEnd.1 (Nat.le_of_ble_eq_true rfl) my_fHeadReader_segmentEnd.2 rfl cf_3.1 rfl (p_obj_eq.mp ho47) gw_690 gw_595 gw_596 ⟨Nat.le_of_ble_eq_true rfl, Nat.le_of_ble_eq_true rfl⟩ (Nat.le_of_ble_eq_true rfl) (fun rv47 w47 _ => ?_)
        refine ee_kI (fun v47 => ?_)
        refine ee_istore (lv2 := [(6, .int v47), (0, .ref l0), (2, .int l2), (3, .int l3), (4, .int l4), (5, .int l5)]) dPartReader_readPartHead_50 (Nat.le_of_ble_eq_true rfl) rfl ?_
        refine ee_iload 0 dPartReader_readPartHead_52 rfl ?_
        refine ee_iconst (v := (-1 : Int32)) dPartReader_readPartHead_54 (by decide) ?_
        refine ee_icmp_ne (tgt := 60) dPartReader_readPartHead_55 (by decide) (fun h55 => ?_) (fun h55 => ?_)
        · refine ee_aload_n 1 dPartReader_readPartHead_60 rfl ?_
          refine ee_getR dPartReader_readPartHead_61 lfPartReader_44 (fun v61 _ => ?_)
          refine ee_iload 4 dPartReader_readPartHead_64 rfl ?_
          refine ee_iconst (v := (1 : Int32)) dPartReader_readPartHead_66 (by decide) ?_
          refine ee_iadd dPartReader_readPartHead_67 ?_
          refine ee_bind (fun _ ho68 => ?_)
          refine ee_callV (as := [.int (l4 + (1 : Int32))]) (st := []) dPartReader_readPartHead_68 (t_fBytes_get v61 (l4 + (1 : Int32)) w47) my_fBytes_get.1 (Nat.le_of_ble_eq_true rfl) my_fBytes_get.2 rfl cf_2.1 rfl (p_obj_eq.mp ho68) gw_685 gw_459 gw_460 ⟨Nat.le_of_ble_eq_true rfl, Nat.le_of_ble_eq_true rfl⟩ (Nat.le_of_ble_eq_true rfl) (fun rv68 w68 _ => ?_)
          refine ee_kI (fun v68 => ?_)
          refine ee_istore (lv2 := [(7, .int v68), (6, .int v47), (0, .ref l0), (2, .int l2), (3, .int l3), (4, .int l4), (5, .int l5)]) dPartReader_readPartHead_71 (Nat.le_of_ble_eq_true rfl) rfl ?_
          refine ee_iload 0 dPartReader_readPartHead_73 rfl ?_
          refine ee_callS (as := [.int v68]) (st := []) dPartReader_readPartHead_75 (t_fHeadReader_isSegmentCode v68 w68) my_fHeadReader_isSegmentCode.1 (Nat.le_of_ble_eq_true rfl) my_fHeadReader_isSegmentCode.2 rfl gw_691 gw_692 ⟨Nat.le_of_ble_eq_true rfl, Nat.le_of_ble_eq_true rfl⟩ (Nat.le_of_ble_eq_true rfl) (fun rv75 w75 _ => ?_)
          refine ee_kI (fun v75 => ?_)
          refine ee_if_eq (tgt := 94) dPartReader_readPartHead_78 (by decide) (fun h78 => ?_) (fun h78 => ?_)
          · refine ee_iconst (v := (0 : Int32)) dPartReader_readPartHead_94 (by decide) ?_
            refine ee_pick [2, 3, 4, 5, 6, 1, 0] rfl ?_
            exact t_fPartReader_readPartHead_95 ih _ _ _ _ _ _ _ _ w75
          · refine ee_aload_n 2 dPartReader_readPartHead_81 rfl ?_
            refine ee_getR dPartReader_readPartHead_82 lfPartReader_31 (fun v82 _ => ?_)
            refine ee_iload_n 4 dPartReader_readPartHead_85 rfl ?_
            refine ee_iald (t := 0) dPartReader_readPartHead_86 rfl (fun v86 _ => ?_)
            refine ee_if_le (tgt := 94) dPartReader_readPartHead_87 (by decide) (fun h87 => ?_) (fun h87 => ?_)
            · refine ee_iconst (v := (0 : Int32)) dPartReader_readPartHead_94 (by decide) ?_
              refine ee_pick [2, 3, 4, 5, 6, 1, 0] rfl ?_
              exact t_fPartReader_readPartHead_95 ih _ _ _ _ _ _ _ _ w75
            · refine ee_iconst (v := (1 : Int32)) dPartReader_readPartHead_90 (by decide) ?_
              refine ee_goto (tgt := 95) dPartReader_readPartHead_91 (by decide) ?_
              refine ee_pick [2, 3, 4, 5, 6, 1, 0] rfl ?_
              exact t_fPartReader_readPartHead_95 ih _ _ _ _ _ _ _ _ w75
        · refine ee_iconst (v := (-1 : Int32)) dPartReader_readPartHead_58 (by decide) ?_
          exact ee_iret rfl dPartReader_readPartHead_59
      · refine ee_iload 3 dPartReader_readPartHead_35 rfl ?_
        refine ee_iconst (v := (2 : Int32)) dPartReader_readPartHead_37 (by decide) ?_
        refine ee_iadd dPartReader_readPartHead_38 ?_
        exact ee_iret rfl dPartReader_readPartHead_39
def fPartReader_readPartHead (l0 : Nat) (l1 : Int32) (l2 : Int32) (l3 : Int32) (w : PW) : PX := (p_put w l0 6 11 (.int (0 : Int32))).bind fun w5 => fPartReader_readPartHead_11 FUEL l0 l2 l3 l1 (0 : Int32) w5
set_option maxRecDepth 20000 in
set_option maxHeartbeats 2000000 in
theorem t_fPartReader_readPartHead {Γ : PG} : ∀ (l0 : Nat) (l1 : Int32) (l2 : Int32) (l3 : Int32) (w : PW), EE Γ MPartReader_readPartHead 0 (lv_args 0 [.ref l0, .int l1, .int l2, .int l3]) [] w (fPartReader_readPartHead l0 l1 l2 l3 w) := by
  intro l0 l1 l2 l3 w
  unfold fPartReader_readPartHead
  show EE Γ MPartReader_readPartHead 0 [(0, .ref l0), (1, .int l1), (2, .int l2), (3, .int l3)] [] w _
  refine ee_iload_n 1 dPartReader_readPartHead_0 rfl ?_
  refine ee_istore (lv2 := [(4, .int l1), (0, .ref l0), (1, .int l1), (2, .int l2), (3, .int l3)]) dPartReader_readPartHead_1 (Nat.le_of_ble_eq_true rfl) rfl ?_
  refine ee_aload_n 1 dPartReader_readPartHead_3 rfl ?_
  refine ee_iconst (v := (0 : Int32)) dPartReader_readPartHead_4 (by decide) ?_
  refine ee_put dPartReader_readPartHead_5 lpPartReader_37 (ee_nI _) (fun w5 _ => ?_)
  refine ee_iconst (v := (0 : Int32)) dPartReader_readPartHead_8 (by decide) ?_
  refine ee_istore (lv2 := [(5, .int (0 : Int32)), (4, .int l1), (0, .ref l0), (1, .int l1), (2, .int l2), (3, .int l3)]) dPartReader_readPartHead_9 (Nat.le_of_ble_eq_true rfl) rfl ?_
  refine ee_pick [2, 4, 5, 1, 0] rfl ?_
  exact t_fPartReader_readPartHead_11 FUEL _ _ _ _ _ w5
def fPartReader_weigh_80 (l0 : Nat) (l1 : Int32) (l2 : Int32) (l5 : Int32) (l6 : Int32) (w : PW) : PX := (p_getR w l0 6 5).bind fun v81 => (p_ast w v81 0 l1 l2).bind fun w86 => (p_getR w86 l0 6 6).bind fun v88 => (p_ast w86 v88 0 l1 l6).bind fun w94 => (p_getR w94 l0 6 7).bind fun v96 => (p_ast w94 v96 0 l1 l5).bind fun w102 => p_retZ (1 : Int32) w102
set_option maxRecDepth 20000 in
set_option maxHeartbeats 2000000 in
theorem t_fPartReader_weigh_80 {Γ : PG} : ∀ (l0 : Nat) (l1 : Int32) (l2 : Int32) (l5 : Int32) (l6 : Int32) (w : PW), EE Γ MPartReader_weigh 80 [(0, .ref l0), (1, .int l1), (2, .int l2), (5, .int l5), (6, .int l6)] [] w (fPartReader_weigh_80 l0 l1 l2 l5 l6 w) := by
  intro l0 l1 l2 l5 l6 w
  unfold fPartReader_weigh_80
  refine ee_aload_n 0 dPartReader_weigh_80 rfl ?_
  refine ee_getR dPartReader_weigh_81 lfPartReader_18 (fun v81 _ => ?_)
  refine ee_iload_n 1 dPartReader_weigh_84 rfl ?_
  refine ee_iload_n 2 dPartReader_weigh_85 rfl ?_
  refine ee_iast (t := 0) dPartReader_weigh_86 rfl (fun w86 _ => ?_)
  refine ee_aload_n 0 dPartReader_weigh_87 rfl ?_
  refine ee_getR dPartReader_weigh_88 lfPartReader_21 (fun v88 _ => ?_)
  refine ee_iload_n 1 dPartReader_weigh_91 rfl ?_
  refine ee_iload 4 dPartReader_weigh_92 rfl ?_
  refine ee_iast (t := 0) dPartReader_weigh_94 rfl (fun w94 _ => ?_)
  refine ee_aload_n 0 dPartReader_weigh_95 rfl ?_
  refine ee_getR dPartReader_weigh_96 lfPartReader_24 (fun v96 _ => ?_)
  refine ee_iload_n 1 dPartReader_weigh_99 rfl ?_
  refine ee_iload 3 dPartReader_weigh_100 rfl ?_
  refine ee_iast (t := 0) dPartReader_weigh_102 rfl (fun w102 _ => ?_)
  refine ee_iconst (v := (1 : Int32)) dPartReader_weigh_103 (by decide) ?_
  exact ee_zret rfl dPartReader_weigh_104
def fPartReader_weigh_53 (l0 : Nat) (l1 : Int32) (l2 : Int32) (l4 : Int32) (l5 : Int32) (l6 : Int32) (w : PW) : PX := (p_getR w l0 6 8).bind fun v54 => (p_ald w v54 2 l1).bind fun v58 => if ¬ v58 = 0 then (fPartReader_weigh_80 l0 l1 l2 l5 l6 w) else ((p_getI w l0 6 11).bind fun v65 => if l5 < v65 then (p_retZ (0 : Int32) w) else (if l4 ≤ l6 then (fPartReader_weigh_80 l0 l1 l2 l5 l6 w) else (p_retZ (0 : Int32) w)))
set_option maxRecDepth 20000 in
set_option maxHeartbeats 2000000 in
theorem t_fPartReader_weigh_53 {Γ : PG} : ∀ (l0 : Nat) (l1 : Int32) (l2 : Int32) (l4 : Int32) (l5 : Int32) (l6 : Int32) (w : PW), EE Γ MPartReader_weigh 53 [(0, .ref l0), (1, .int l1), (2, .int l2), (4, .int l4), (5, .int l5), (6, .int l6)] [] w (fPartReader_weigh_53 l0 l1 l2 l4 l5 l6 w) := by
  intro l0 l1 l2 l4 l5 l6 w
  unfold fPartReader_weigh_53
  refine ee_aload_n 0 dPartReader_weigh_53 rfl ?_
  refine ee_getR dPartReader_weigh_54 lfPartReader_27 (fun v54 _ => ?_)
  refine ee_iload_n 1 dPartReader_weigh_57 rfl ?_
  refine ee_zald (t := 2) dPartReader_weigh_58 rfl (fun v58 _ => ?_)
  refine ee_if_ne (tgt := 80) dPartReader_weigh_59 (by decide) (fun h59 => ?_) (fun h59 => ?_)
  · refine ee_pick [0, 1, 2, 4, 5] rfl ?_
    exact t_fPartReader_weigh_80 _ _ _ _ _ w
  · refine ee_iload 4 dPartReader_weigh_62 rfl ?_
    refine ee_aload_n 0 dPartReader_weigh_64 rfl ?_
    refine ee_getI dPartReader_weigh_65 lfPartReader_37 (fun v65 _ => ?_)
    refine ee_icmp_lt (tgt := 78) dPartReader_weigh_68 (by decide) (fun h68 => ?_) (fun h68 => ?_)
    · refine ee_iconst (v := (0 : Int32)) dPartReader_weigh_78 (by decide) ?_
      exact ee_zret rfl dPartReader_weigh_79
    · refine ee_iload 5 dPartReader_weigh_71 rfl ?_
      refine ee_iload 3 dPartReader_weigh_73 rfl ?_
      refine ee_icmp_ge (tgt := 80) dPartReader_weigh_75 (by decide) (fun h75 => ?_) (fun h75 => ?_)
      · refine ee_pick [0, 1, 2, 4, 5] rfl ?_
        exact t_fPartReader_weigh_80 _ _ _ _ _ w
      · refine ee_iconst (v := (0 : Int32)) dPartReader_weigh_78 (by decide) ?_
        exact ee_zret rfl dPartReader_weigh_79
def fPartReader_weigh_11 : Nat → Nat → Int32 → Int32 → Int32 → Int32 → Int32 → PW → PX
  | 0, _, _, _, _, _, _, _ => none
  | n9 + 1, l0, l1, l2, l4, l5, l6, w => (p_getI w l0 6 11).bind fun v14 => if v14 ≤ l5 then (fPartReader_weigh_53 l0 l1 l2 l4 l5 l6 w) else ((p_getR w l0 6 10).bind fun v21 => (p_ald w v21 0 l5).bind fun v26 => if (l4 - l6) < v26 then (fPartReader_weigh_53 l0 l1 l2 l4 l5 l6 w) else ((p_getR w l0 6 10).bind fun v38 => (p_ald w v38 0 l5).bind fun v43 => p_let ((l6 + v43)) fun (l6_45 : Int32) => p_let (l5 + (1 : Int32)) fun (l5_47 : Int32) => (fPartReader_weigh_11 n9) l0 l1 l2 l4 l5_47 l6_45 w))
set_option maxRecDepth 20000 in
set_option maxHeartbeats 2000000 in
theorem t_fPartReader_weigh_11 {Γ : PG} : ∀ (n9 : Nat) (l0 : Nat) (l1 : Int32) (l2 : Int32) (l4 : Int32) (l5 : Int32) (l6 : Int32) (w : PW), EE Γ MPartReader_weigh 11 [(0, .ref l0), (1, .int l1), (2, .int l2), (4, .int l4), (5, .int l5), (6, .int l6)] [] w (fPartReader_weigh_11 n9 l0 l1 l2 l4 l5 l6 w) := by
  intro n9
  induction n9 with
  | zero => intro l0 l1 l2 l4 l5 l6 w; exact ee_none
  | succ n9 ih =>
    intro l0 l1 l2 l4 l5 l6 w
    unfold fPartReader_weigh_11
    refine ee_iload 4 dPartReader_weigh_11 rfl ?_
    refine ee_aload_n 0 dPartReader_weigh_13 rfl ?_
    refine ee_getI dPartReader_weigh_14 lfPartReader_37 (fun v14 _ => ?_)
    refine ee_icmp_ge (tgt := 53) dPartReader_weigh_17 (by decide) (fun h17 => ?_) (fun h17 => ?_)
    · exact t_fPartReader_weigh_53 _ _ _ _ _ _ w
    · refine ee_aload_n 0 dPartReader_weigh_20 rfl ?_
      refine ee_getR dPartReader_weigh_21 lfPartReader_34 (fun v21 _ => ?_)
      refine ee_iload 4 dPartReader_weigh_24 rfl ?_
      refine ee_iald (t := 0) dPartReader_weigh_26 rfl (fun v26 _ => ?_)
      refine ee_iload 3 dPartReader_weigh_27 rfl ?_
      refine ee_iload 5 dPartReader_weigh_29 rfl ?_
      refine ee_isub dPartReader_weigh_31 ?_
      refine ee_icmp_gt (tgt := 53) dPartReader_weigh_32 (by decide) (fun h32 => ?_) (fun h32 => ?_)
      · exact t_fPartReader_weigh_53 _ _ _ _ _ _ w
      · refine ee_iload 5 dPartReader_weigh_35 rfl ?_
        refine ee_aload_n 0 dPartReader_weigh_37 rfl ?_
        refine ee_getR dPartReader_weigh_38 lfPartReader_34 (fun v38 _ => ?_)
        refine ee_iload 4 dPartReader_weigh_41 rfl ?_
        refine ee_iald (t := 0) dPartReader_weigh_43 rfl (fun v43 _ => ?_)
        refine ee_iadd dPartReader_weigh_44 ?_
        refine ee_letI (fun l6_45 _ => ?_)
        refine ee_istore (lv2 := [(6, .int l6_45), (0, .ref l0), (1, .int l1), (2, .int l2), (4, .int l4), (5, .int l5)]) dPartReader_weigh_45 (Nat.le_of_ble_eq_true rfl) rfl ?_
        refine ee_iinc 5 dPartReader_weigh_47 rfl (e := (1 : Int32)) (by decide) (Nat.le_of_ble_eq_true rfl) (fun l5_47 _ => ?_)
        refine ee_lv (lv2 := [(5, .int l5_47), (6, .int l6_45), (0, .ref l0), (1, .int l1), (2, .int l2), (4, .int l4)]) rfl ?_
        refine ee_goto (tgt := 11) dPartReader_weigh_50 (by decide) ?_
        refine ee_pick [2, 3, 4, 5, 0, 1] rfl ?_
        exact ih _ _ _ _ _ _ w
def fPartReader_weigh (l0 : Nat) (l1 : Int32) (l2 : Int32) (l3 : Int32) (w : PW) : PX := p_let ((l3 - l2)) fun (l4_3 : Int32) => fPartReader_weigh_11 FUEL l0 l1 l2 l4_3 (0 : Int32) (0 : Int32) w
set_option maxRecDepth 20000 in
set_option maxHeartbeats 2000000 in
theorem t_fPartReader_weigh {Γ : PG} : ∀ (l0 : Nat) (l1 : Int32) (l2 : Int32) (l3 : Int32) (w : PW), EE Γ MPartReader_weigh 0 (lv_args 0 [.ref l0, .int l1, .int l2, .int l3]) [] w (fPartReader_weigh l0 l1 l2 l3 w) := by
  intro l0 l1 l2 l3 w
  unfold fPartReader_weigh
  show EE Γ MPartReader_weigh 0 [(0, .ref l0), (1, .int l1), (2, .int l2), (3, .int l3)] [] w _
  refine ee_iload_n 3 dPartReader_weigh_0 rfl ?_
  refine ee_iload_n 2 dPartReader_weigh_1 rfl ?_
  refine ee_isub dPartReader_weigh_2 ?_
  refine ee_letI (fun l4_3 _ => ?_)
  refine ee_istore (lv2 := [(4, .int l4_3), (0, .ref l0), (1, .int l1), (2, .int l2), (3, .int l3)]) dPartReader_weigh_3 (Nat.le_of_ble_eq_true rfl) rfl ?_
  refine ee_iconst (v := (0 : Int32)) dPartReader_weigh_5 (by decide) ?_
  refine ee_istore (lv2 := [(5, .int (0 : Int32)), (4, .int l4_3), (0, .ref l0), (1, .int l1), (2, .int l2), (3, .int l3)]) dPartReader_weigh_6 (Nat.le_of_ble_eq_true rfl) rfl ?_
  refine ee_iconst (v := (0 : Int32)) dPartReader_weigh_8 (by decide) ?_
  refine ee_istore (lv2 := [(6, .int (0 : Int32)), (5, .int (0 : Int32)), (4, .int l4_3), (0, .ref l0), (1, .int l1), (2, .int l2), (3, .int l3)]) dPartReader_weigh_9 (Nat.le_of_ble_eq_true rfl) rfl ?_
  refine ee_pick [3, 4, 5, 2, 1, 0] rfl ?_
  exact t_fPartReader_weigh_11 FUEL _ _ _ _ _ _ w
def fPartReader_readPart_160 (l0 : Nat) (l4 : Int32) (w : PW) : PX := (p_getR w l0 6 9).bind fun v161 => (p_ald w v161 0 l4).bind fun v166 => if ¬ v166 = 0 then (some (.inl none, w)) else ((p_getR w l0 6 1).bind fun v171 => (p_obj w v171 7).bind fun _ => p_call (fSettings_forgetTile v171 l4 w) <| p_kV fun w176 => some (.inl none, w176))
set_option maxRecDepth 20000 in
set_option maxHeartbeats 2000000 in
theorem t_fPartReader_readPart_160 {Γ : PG} : ∀ (l0 : Nat) (l4 : Int32) (w : PW), EE Γ MPartReader_readPart 160 [(0, .ref l0), (4, .int l4)] [] w (fPartReader_readPart_160 l0 l4 w) := by
  intro l0 l4 w
  unfold fPartReader_readPart_160
  refine ee_aload_n 0 dPartReader_readPart_160 rfl ?_
  refine ee_getR dPartReader_readPart_161 lfPartReader_31 (fun v161 _ => ?_)
  refine ee_iload 1 dPartReader_readPart_164 rfl ?_
  refine ee_iald (t := 0) dPartReader_readPart_166 rfl (fun v166 _ => ?_)
  refine ee_if_ne (tgt := 179) dPartReader_readPart_167 (by decide) (fun h167 => ?_) (fun h167 => ?_)
  · exact ee_vret rfl dPartReader_readPart_179
  · refine ee_aload_n 0 dPartReader_readPart_170 rfl ?_
    refine ee_getR dPartReader_readPart_171 lfPartReader_48 (fun v171 _ => ?_)
    refine ee_iload 1 dPartReader_readPart_174 rfl ?_
    refine ee_bind (fun _ ho176 => ?_)
    refine ee_callV (as := [.int l4]) (st := []) dPartReader_readPart_176 (t_fSettings_forgetTile v171 l4 w) my_fSettings_forgetTile.1 (Nat.le_of_ble_eq_true rfl) my_fSettings_forgetTile.2 rfl cf_7.1 rfl (p_obj_eq.mp ho176) gw_706 gw_707 gw_708 ⟨Nat.le_of_ble_eq_true rfl, Nat.le_of_ble_eq_true rfl⟩ (Nat.le_of_ble_eq_true rfl) (fun rv176 w176 _ => ?_)
    refine ee_kV ?_
    exact ee_vret rfl dPartReader_readPart_179
def fPartReader_readPart (l0 : Nat) (l1 : Int32) (l2 : Int32) (w : PW) : PX := (p_getR w l0 6 4).bind fun v1 => (p_ald w v1 0 l1).bind fun v5 => (p_getR w l0 6 0).bind fun v8 => (p_obj w v8 2).bind fun _ => p_call (fBytes_number v8 (v5 + (4 : Int32)) (2 : Int32) w) <| p_kJ fun v15 w15 => p_let ((Int64.toInt32 v15)) fun (l4_19 : Int32) => (p_getR w15 l0 6 3).bind fun v22 => (p_ast w15 v22 0 l1 (-1 : Int32)).bind fun w27 => (p_getR w27 l0 6 5).bind fun v29 => (p_ast w27 v29 0 l1 (0 : Int32)).bind fun w34 => (p_getR w34 l0 6 6).bind fun v36 => (p_ast w34 v36 0 l1 (0 : Int32)).bind fun w41 => (p_getR w41 l0 6 7).bind fun v43 => (p_ast w41 v43 0 l1 (0 : Int32)).bind fun w48 => (p_getR w48 l0 6 0).bind fun v50 => (p_obj w48 v50 2).bind fun _ => p_call (fBytes_number v50 (v5 + (2 : Int32)) (2 : Int32) w48) <| p_kJ fun v57 w57 => if ¬ (lg_cmp v57 (10 : Int64)) = 0 then (some (.inl none, w57)) else ((p_getR w57 l0 6 1).bind fun v68 => (p_obj w57 v68 7).bind fun _ => p_call (fSettings_isTile v68 l4_19 w57) <| p_kI fun v73 w73 => if v73 = 0 then (some (.inl none, w73)) else (if (24 : Int32) ≤ l4_19 then (some (.inl none, w73)) else ((p_getR w73 l0 6 0).bind fun v87 => (p_obj w73 v87 2).bind fun _ => p_call (fBytes_get v87 (v5 + (10 : Int32)) w73) <| p_kI fun v94 w94 => (p_getR w94 l0 6 9).bind fun v98 => (p_ald w94 v98 0 l4_19).bind fun v103 => if v94 = v103 then ((p_obj w94 l0 6).bind fun _ => p_call (fPartReader_readPartHead l0 (v5 + (12 : Int32)) l2 l4_19 w94) <| p_kI fun v116 w116 => if v116 = (-1 : Int32) then (fPartReader_readPart_160 l0 l4_19 w116) else ((p_obj w116 l0 6).bind fun _ => p_call (fPartReader_weigh l0 l1 v116 l2 w116) <| p_kI fun v132 w132 => if v132 = 0 then (fPartReader_readPart_160 l0 l4_19 w132) else ((p_getR w132 l0 6 3).bind fun v139 => (p_ast w132 v139 0 l1 l4_19).bind fun w145 => (p_getR w145 l0 6 9).bind fun v147 => (p_ald w145 v147 0 l4_19).bind fun v153 => (p_ast w145 v147 0 l4_19 (v153 + (1 : Int32))).bind fun w156 => some (.inl none, w156)))) else (some (.inl none, w94)))))
set_option maxRecDepth 20000 in
set_option maxHeartbeats 2000000 in
theorem t_fPartReader_readPart {Γ : PG} : ∀ (l0 : Nat) (l1 : Int32) (l2 : Int32) (w : PW), EE Γ MPartReader_readPart 0 (lv_args 0 [.ref l0, .int l1, .int l2]) [] w (fPartReader_readPart l0 l1 l2 w) := by
  intro l0 l1 l2 w
  unfold fPartReader_readPart
  show EE Γ MPartReader_readPart 0 [(0, .ref l0), (1, .int l1), (2, .int l2)] [] w _
  refine ee_aload_n 0 dPartReader_readPart_0 rfl ?_
  refine ee_getR dPartReader_readPart_1 lfPartReader_15 (fun v1 _ => ?_)
  refine ee_iload_n 1 dPartReader_readPart_4 rfl ?_
  refine ee_iald (t := 0) dPartReader_readPart_5 rfl (fun v5 _ => ?_)
  refine ee_istore_n (lv2 := [(3, .int v5), (0, .ref l0), (1, .int l1), (2, .int l2)]) dPartReader_readPart_6 (Nat.le_of_ble_eq_true rfl) rfl ?_
  refine ee_aload_n 1 dPartReader_readPart_7 rfl ?_
  refine ee_getR dPartReader_readPart_8 lfPartReader_44 (fun v8 _ => ?_)
  refine ee_iload_n 0 dPartReader_readPart_11 rfl ?_
  refine ee_iconst (v := (4 : Int32)) dPartReader_readPart_12 (by decide) ?_
  refine ee_iadd dPartReader_readPart_13 ?_
  refine ee_iconst (v := (2 : Int32)) dPartReader_readPart_14 (by decide) ?_
  refine ee_bind (fun _ ho15 => ?_)
  refine ee_callV (as := [.int (v5 + (4 : Int32)), .int (2 : Int32)]) (st := []) dPartReader_readPart_15 (t_fBytes_number v8 (v5 + (4 : Int32)) (2 : Int32) w) my_fBytes_number.1 (Nat.le_of_ble_eq_true rfl) my_fBytes_number.2 rfl cf_2.1 rfl (p_obj_eq.mp ho15) gw_673 gw_538 gw_539 ⟨Nat.le_of_ble_eq_true rfl, Nat.le_of_ble_eq_true rfl⟩ (Nat.le_of_ble_eq_true rfl) (fun rv15 w15 _ => ?_)
  refine ee_kJ (fun v15 => ?_)
  refine ee_l2i dPartReader_readPart_18 ?_
  refine ee_letI (fun l4_19 _ => ?_)
  refine ee_istore (lv2 := [(4, .int l4_19), (3, .int v5), (0, .ref l0), (1, .int l1), (2, .int l2)]) dPartReader_readPart_19 (Nat.le_of_ble_eq_true rfl) rfl ?_
  refine ee_aload_n 2 dPartReader_readPart_21 rfl ?_
  refine ee_getR dPartReader_readPart_22 lfPartReader_9 (fun v22 _ => ?_)
  refine ee_iload_n 3 dPartReader_readPart_25 rfl ?_
  refine ee_iconst (v := (-1 : Int32)) dPartReader_readPart_26 (by decide) ?_
  refine ee_iast (t := 0) dPartReader_readPart_27 rfl (fun w27 _ => ?_)
  refine ee_aload_n 2 dPartReader_readPart_28 rfl ?_
  refine ee_getR dPartReader_readPart_29 lfPartReader_18 (fun v29 _ => ?_)
  refine ee_iload_n 3 dPartReader_readPart_32 rfl ?_
  refine ee_iconst (v := (0 : Int32)) dPartReader_readPart_33 (by decide) ?_
  refine ee_iast (t := 0) dPartReader_readPart_34 rfl (fun w34 _ => ?_)
  refine ee_aload_n 2 dPartReader_readPart_35 rfl ?_
  refine ee_getR dPartReader_readPart_36 lfPartReader_21 (fun v36 _ => ?_)
  refine ee_iload_n 3 dPartReader_readPart_39 rfl ?_
  refine ee_iconst (v := (0 : Int32)) dPartReader_readPart_40 (by decide) ?_
  refine ee_iast (t := 0) dPartReader_readPart_41 rfl (fun w41 _ => ?_)
  refine ee_aload_n 2 dPartReader_readPart_42 rfl ?_
  refine ee_getR dPartReader_readPart_43 lfPartReader_24 (fun v43 _ => ?_)
  refine ee_iload_n 3 dPartReader_readPart_46 rfl ?_
  refine ee_iconst (v := (0 : Int32)) dPartReader_readPart_47 (by decide) ?_
  refine ee_iast (t := 0) dPartReader_readPart_48 rfl (fun w48 _ => ?_)
  refine ee_aload_n 2 dPartReader_readPart_49 rfl ?_
  refine ee_getR dPartReader_readPart_50 lfPartReader_44 (fun v50 _ => ?_)
  refine ee_iload_n 1 dPartReader_readPart_53 rfl ?_
  refine ee_iconst (v := (2 : Int32)) dPartReader_readPart_54 (by decide) ?_
  refine ee_iadd dPartReader_readPart_55 ?_
  refine ee_iconst (v := (2 : Int32)) dPartReader_readPart_56 (by decide) ?_
  refine ee_bind (fun _ ho57 => ?_)
  refine ee_callV (as := [.int (v5 + (2 : Int32)), .int (2 : Int32)]) (st := []) dPartReader_readPart_57 (t_fBytes_number v50 (v5 + (2 : Int32)) (2 : Int32) w48) my_fBytes_number.1 (Nat.le_of_ble_eq_true rfl) my_fBytes_number.2 rfl cf_2.1 rfl (p_obj_eq.mp ho57) gw_673 gw_538 gw_539 ⟨Nat.le_of_ble_eq_true rfl, Nat.le_of_ble_eq_true rfl⟩ (Nat.le_of_ble_eq_true rfl) (fun rv57 w57 _ => ?_)
  refine ee_kJ (fun v57 => ?_)
  refine ee_ldc2 (v := (10 : Int64)) dPartReader_readPart_60 gw_679 ?_
  refine ee_lcmp dPartReader_readPart_63 ?_
  refine ee_if_ne (tgt := 107) dPartReader_readPart_64 (by decide) (fun h64 => ?_) (fun h64 => ?_)
  · exact ee_vret rfl dPartReader_readPart_107
  · refine ee_aload_n 2 dPartReader_readPart_67 rfl ?_
    refine ee_getR dPartReader_readPart_68 lfPartReader_48 (fun v68 _ => ?_)
    refine ee_iload 0 dPartReader_readPart_71 rfl ?_
    refine ee_bind (fun _ ho73 => ?_)
    refine ee_callV (as := [.int l4_19]) (st := []) dPartReader_readPart_73 (t_fSettings_isTile v68 l4_19 w57) my_fSettings_isTile.1 (Nat.le_of_ble_eq_true rfl) my_fSettings_isTile.2 rfl cf_7.1 rfl (p_obj_eq.mp ho73) gw_680 gw_681 gw_682 ⟨Nat.le_of_ble_eq_true rfl, Nat.le_of_ble_eq_true rfl⟩ (Nat.le_of_ble_eq_true rfl) (fun rv73 w73 _ => ?_)
    refine ee_kI (fun v73 => ?_)
    refine ee_if_eq (tgt := 107) dPartReader_readPart_76 (by decide) (fun h76 => ?_) (fun h76 => ?_)
    · exact ee_vret rfl dPartReader_readPart_107
    · refine ee_iload 0 dPartReader_readPart_79 rfl ?_
      refine ee_bipush (v := (24 : Int32)) dPartReader_readPart_81 (by decide) ?_
      refine ee_icmp_ge (tgt := 107) dPartReader_readPart_83 (by decide) (fun h83 => ?_) (fun h83 => ?_)
      · exact ee_vret rfl dPartReader_readPart_107
      · refine ee_aload_n 2 dPartReader_readPart_86 rfl ?_
        refine ee_getR dPartReader_readPart_87 lfPartReader_44 (fun v87 _ => ?_)
        refine ee_iload_n 1 dPartReader_readPart_90 rfl ?_
        refine ee_bipush (v := (10 : Int32)) dPartReader_readPart_91 (by decide) ?_
        refine ee_iadd dPartReader_readPart_93 ?_
        refine ee_bind (fun _ ho94 => ?_)
        refine ee_callV (as := [.int (v5 + (10 : Int32))]) (st := []) dPartReader_readPart_94 (t_fBytes_get v87 (v5 + (10 : Int32)) w73) my_fBytes_get.1 (Nat.le_of_ble_eq_true rfl) my_fBytes_get.2 rfl cf_2.1 rfl (p_obj_eq.mp ho94) gw_685 gw_459 gw_460 ⟨Nat.le_of_ble_eq_true rfl, Nat.le_of_ble_eq_true rfl⟩ (Nat.le_of_ble_eq_true rfl) (fun rv94 w94 _ => ?_)
        refine ee_kI (fun v94 => ?_)
        refine ee_aload_n 2 dPartReader_readPart_97 rfl ?_
        refine ee_getR dPartReader_readPart_98 lfPartReader_31 (fun v98 _ => ?_)
        refine ee_iload 0 dPartReader_readPart_101 rfl ?_
        refine ee_iald (t := 0) dPartReader_readPart_103 rfl (fun v103 _ => ?_)
        refine ee_icmp_eq (tgt := 108) dPartReader_readPart_104 (by decide) (fun h104 => ?_) (fun h104 => ?_)
        · refine ee_aload_n 2 dPartReader_readPart_108 rfl ?_
          refine ee_iload_n 1 dPartReader_readPart_109 rfl ?_
          refine ee_bipush (v := (12 : Int32)) dPartReader_readPart_110 (by decide) ?_
          refine ee_iadd dPartReader_readPart_112 ?_
          refine ee_iload_n 4 dPartReader_readPart_113 rfl ?_
          refine ee_iload 0 dPartReader_readPart_114 rfl ?_
          refine ee_bind (fun _ ho116 => ?_)
          refine ee_callV (as := [.int (v5 + (12 : Int32)), .int l2, .int l4_19]) (st := []) dPartReader_readPart_116 (t_fPartReader_readPartHead l0 (v5 + (12 : Int32)) l2 l4_19 w94) my_fPartReader_readPartHead.1 (Nat.le_of_ble_eq_true rfl) my_fPartReader_readPartHead.2 rfl cf_6.1 rfl (p_obj_eq.mp ho116) gw_686 gw_687 gw_688 ⟨Nat.le_of_ble_eq_true rfl, Nat.le_of_ble_eq_true rfl⟩ (Nat.le_of_ble_eq_true rfl) (fun rv116 w116 _ => ?_)
          refine ee_kI (fun v116 => ?_)
          refine ee_istore (lv2 := [(5, .int v116), (4, .int l4_19), (3, .int v5), (0, .ref l0), (1, .int l1), (2, .int l2)]) dPartReader_readPart_119 (Nat.le_of_ble_eq_true rfl) rfl ?_
          refine ee_iload 0 dPartReader_readPart_121 rfl ?_
          refine ee_iconst (v := (-1 : Int32)) dPartReader_readPart_123 (by decide) ?_
          refine ee_icmp_eq (tgt := 160) dPartReader_readPart_124 (by decide) (fun h124 => ?_) (fun h124 => ?_)
          · refine ee_pick [3, 1] rfl ?_
            exact t_fPartReader_readPart_160 _ _ w116
          · refine ee_aload_n 3 dPartReader_readPart_127 rfl ?_
            refine ee_iload_n 4 dPartReader_readPart_128 rfl ?_
            refine ee_iload 0 dPartReader_readPart_129 rfl ?_
            refine ee_iload_n 5 dPartReader_readPart_131 rfl ?_
            refine ee_bind (fun _ ho132 => ?_)
            refine ee_callV (as := [.int l1, .int v116, .int l2]) (st := []) dPartReader_readPart_132 (t_fPartReader_weigh l0 l1 v116 l2 w116) my_fPartReader_weigh.1 (Nat.le_of_ble_eq_true rfl) my_fPartReader_weigh.2 rfl cf_6.1 rfl (p_obj_eq.mp ho132) gw_702 gw_703 gw_704 ⟨Nat.le_of_ble_eq_true rfl, Nat.le_of_ble_eq_true rfl⟩ (Nat.le_of_ble_eq_true rfl) (fun rv132 w132 _ => ?_)
            refine ee_kI (fun v132 => ?_)
            refine ee_if_eq (tgt := 160) dPartReader_readPart_135 (by decide) (fun h135 => ?_) (fun h135 => ?_)
            · refine ee_pick [3, 1] rfl ?_
              exact t_fPartReader_readPart_160 _ _ w132
            · refine ee_aload_n 3 dPartReader_readPart_138 rfl ?_
              refine ee_getR dPartReader_readPart_139 lfPartReader_9 (fun v139 _ => ?_)
              refine ee_iload_n 4 dPartReader_readPart_142 rfl ?_
              refine ee_iload 1 dPartReader_readPart_143 rfl ?_
              refine ee_iast (t := 0) dPartReader_readPart_145 rfl (fun w145 _ => ?_)
              refine ee_aload_n 3 dPartReader_readPart_146 rfl ?_
              refine ee_getR dPartReader_readPart_147 lfPartReader_31 (fun v147 _ => ?_)
              refine ee_iload 1 dPartReader_readPart_150 rfl ?_
              refine ee_dup2 dPartReader_readPart_152 rfl rfl ?_
              refine ee_iald (t := 0) dPartReader_readPart_153 rfl (fun v153 _ => ?_)
              refine ee_iconst (v := (1 : Int32)) dPartReader_readPart_154 (by decide) ?_
              refine ee_iadd dPartReader_readPart_155 ?_
              refine ee_iast (t := 0) dPartReader_readPart_156 rfl (fun w156 _ => ?_)
              refine ee_goto (tgt := 179) dPartReader_readPart_157 (by decide) ?_
              exact ee_vret rfl dPartReader_readPart_179
        · exact ee_vret rfl dPartReader_readPart_107
def fPartReader_readParts_74 (k_5 : Nat → Int32 → Int32 → Int32 → PW → PX) (l0 : Nat) (l2 : Int32) (l3 : Int32) (l4 : Int32) (l7 : Int32) (s0 : Int32) (w : PW) : PX := (p_getR w l0 6 4).bind fun v77 => (p_ast w v77 0 l4 l3).bind fun w83 => (p_getR w83 l0 6 8).bind fun v85 => (p_ast w83 v85 2 l4 (vp_nar .boolean l7)).bind fun w92 => (p_obj w92 l0 6).bind fun _ => p_call (fPartReader_readPart l0 l4 s0 w92) <| p_kV fun w98 => (p_put w98 l0 6 12 (.int (l4 + (1 : Int32)))).bind fun w106 => p_let (l4 + (1 : Int32)) fun (l4_112 : Int32) => k_5 l0 l2 s0 l4_112 w106
set_option maxRecDepth 20000 in
set_option maxHeartbeats 2000000 in
theorem t_fPartReader_readParts_74 {Γ : PG} {k_5 : Nat → Int32 → Int32 → Int32 → PW → PX} (hk_5 : ∀ (l0 : Nat) (l2 : Int32) (l3 : Int32) (l4 : Int32) (w : PW), EE Γ MPartReader_readParts 5 [(0, .ref l0), (2, .int l2), (3, .int l3), (4, .int l4)] [] w (k_5 l0 l2 l3 l4 w)) : ∀ (l0 : Nat) (l2 : Int32) (l3 : Int32) (l4 : Int32) (l7 : Int32) (s0 : Int32) (w : PW), EE Γ MPartReader_readParts 74 [(0, .ref l0), (2, .int l2), (3, .int l3), (4, .int l4), (7, .int l7)] [.int s0] w (fPartReader_readParts_74 k_5 l0 l2 l3 l4 l7 s0 w) := by
  intro l0 l2 l3 l4 l7 s0 w
  unfold fPartReader_readParts_74
  refine ee_istore (lv2 := [(8, .int s0), (0, .ref l0), (2, .int l2), (3, .int l3), (4, .int l4), (7, .int l7)]) dPartReader_readParts_74 (Nat.le_of_ble_eq_true rfl) rfl ?_
  refine ee_aload_n 1 dPartReader_readParts_76 rfl ?_
  refine ee_getR dPartReader_readParts_77 lfPartReader_15 (fun v77 _ => ?_)
  refine ee_iload 4 dPartReader_readParts_80 rfl ?_
  refine ee_iload_n 3 dPartReader_readParts_82 rfl ?_
  refine ee_iast (t := 0) dPartReader_readParts_83 rfl (fun w83 _ => ?_)
  refine ee_aload_n 1 dPartReader_readParts_84 rfl ?_
  refine ee_getR dPartReader_readParts_85 lfPartReader_27 (fun v85 _ => ?_)
  refine ee_iload 4 dPartReader_readParts_88 rfl ?_
  refine ee_iload 5 dPartReader_readParts_90 rfl ?_
  refine ee_zast (t := 2) dPartReader_readParts_92 rfl (fun w92 _ => ?_)
  refine ee_aload_n 1 dPartReader_readParts_93 rfl ?_
  refine ee_iload 4 dPartReader_readParts_94 rfl ?_
  refine ee_iload 0 dPartReader_readParts_96 rfl ?_
  refine ee_bind (fun _ ho98 => ?_)
  refine ee_callV (as := [.int l4, .int s0]) (st := []) dPartReader_readParts_98 (t_fPartReader_readPart l0 l4 s0 w92) my_fPartReader_readPart.1 (Nat.le_of_ble_eq_true rfl) my_fPartReader_readPart.2 rfl cf_6.1 rfl (p_obj_eq.mp ho98) gw_675 gw_676 gw_677 ⟨Nat.le_of_ble_eq_true rfl, Nat.le_of_ble_eq_true rfl⟩ (Nat.le_of_ble_eq_true rfl) (fun rv98 w98 _ => ?_)
  refine ee_kV ?_
  refine ee_aload_n 1 dPartReader_readParts_101 rfl ?_
  refine ee_iload 4 dPartReader_readParts_102 rfl ?_
  refine ee_iconst (v := (1 : Int32)) dPartReader_readParts_104 (by decide) ?_
  refine ee_iadd dPartReader_readParts_105 ?_
  refine ee_put dPartReader_readParts_106 lpPartReader_41 (ee_nI _) (fun w106 _ => ?_)
  refine ee_iload 0 dPartReader_readParts_109 rfl ?_
  refine ee_istore_n (lv2 := [(3, .int s0), (8, .int s0), (0, .ref l0), (2, .int l2), (4, .int l4), (7, .int l7)]) dPartReader_readParts_111 (Nat.le_of_ble_eq_true rfl) rfl ?_
  refine ee_iinc 4 dPartReader_readParts_112 rfl (e := (1 : Int32)) (by decide) (Nat.le_of_ble_eq_true rfl) (fun l4_112 _ => ?_)
  refine ee_lv (lv2 := [(4, .int l4_112), (3, .int s0), (8, .int s0), (0, .ref l0), (2, .int l2), (7, .int l7)]) rfl ?_
  refine ee_goto (tgt := 5) dPartReader_readParts_115 (by decide) ?_
  refine ee_pick [3, 4, 1, 0] rfl ?_
  exact hk_5 _ _ _ _ w106
def fPartReader_readParts_51 (k_5 : Nat → Int32 → Int32 → Int32 → PW → PX) (l0 : Nat) (l2 : Int32) (l3 : Int32) (l4 : Int32) (l5 : Int64) (s0 : Int32) (w : PW) : PX := if ¬ s0 = 0 then (fPartReader_readParts_74 k_5 l0 l2 l3 l4 s0 l2 w) else (if ¬ (lg_cmp l5 (0 : Int64)) = 0 then (fPartReader_readParts_74 k_5 l0 l2 l3 l4 s0 (l3 + (Int64.toInt32 l5)) w) else (fPartReader_readParts_74 k_5 l0 l2 l3 l4 s0 l2 w))
set_option maxRecDepth 20000 in
set_option maxHeartbeats 2000000 in
theorem t_fPartReader_readParts_51 {Γ : PG} {k_5 : Nat → Int32 → Int32 → Int32 → PW → PX} (hk_5 : ∀ (l0 : Nat) (l2 : Int32) (l3 : Int32) (l4 : Int32) (w : PW), EE Γ MPartReader_readParts 5 [(0, .ref l0), (2, .int l2), (3, .int l3), (4, .int l4)] [] w (k_5 l0 l2 l3 l4 w)) : ∀ (l0 : Nat) (l2 : Int32) (l3 : Int32) (l4 : Int32) (l5 : Int64) (s0 : Int32) (w : PW), EE Γ MPartReader_readParts 51 [(0, .ref l0), (2, .int l2), (3, .int l3), (4, .int l4), (5, .long l5)] [.int s0] w (fPartReader_readParts_51 k_5 l0 l2 l3 l4 l5 s0 w) := by
  intro l0 l2 l3 l4 l5 s0 w
  unfold fPartReader_readParts_51
  refine ee_istore (lv2 := [(7, .int s0), (0, .ref l0), (2, .int l2), (3, .int l3), (4, .int l4), (5, .long l5)]) dPartReader_readParts_51 (Nat.le_of_ble_eq_true rfl) rfl ?_
  refine ee_iload 0 dPartReader_readParts_53 rfl ?_
  refine ee_if_ne (tgt := 65) dPartReader_readParts_55 (by decide) (fun h55 => ?_) (fun h55 => ?_)
  · refine ee_iload_n 2 dPartReader_readParts_65 rfl ?_
    refine ee_goto (tgt := 74) dPartReader_readParts_66 (by decide) ?_
    refine ee_pick [1, 2, 3, 4, 0] rfl ?_
    exact t_fPartReader_readParts_74 hk_5 _ _ _ _ _ _ w
  · refine ee_lload 5 dPartReader_readParts_58 rfl ?_
    refine ee_lconst (v := (0 : Int64)) dPartReader_readParts_60 (by decide) ?_
    refine ee_lcmp dPartReader_readParts_61 ?_
    refine ee_if_ne (tgt := 69) dPartReader_readParts_62 (by decide) (fun h62 => ?_) (fun h62 => ?_)
    · refine ee_iload_n 3 dPartReader_readParts_69 rfl ?_
      refine ee_lload 5 dPartReader_readParts_70 rfl ?_
      refine ee_l2i dPartReader_readParts_72 ?_
      refine ee_iadd dPartReader_readParts_73 ?_
      refine ee_pick [1, 2, 3, 4, 0] rfl ?_
      exact t_fPartReader_readParts_74 hk_5 _ _ _ _ _ _ w
    · refine ee_iload_n 2 dPartReader_readParts_65 rfl ?_
      refine ee_goto (tgt := 74) dPartReader_readParts_66 (by decide) ?_
      refine ee_pick [1, 2, 3, 4, 0] rfl ?_
      exact t_fPartReader_readParts_74 hk_5 _ _ _ _ _ _ w
def fPartReader_readParts_5 : Nat → Nat → Int32 → Int32 → Int32 → PW → PX
  | 0, _, _, _, _, _ => none
  | n9 + 1, l0, l2, l3, l4, w => if (300 : Int32) ≤ l4 then (some (.inl none, w)) else ((p_obj w l0 6).bind fun _ => p_call (fPartReader_beginsPart l0 l3 l2 w) <| p_kI fun v16 w16 => if v16 = 0 then (some (.inl none, w16)) else ((p_getR w16 l0 6 0).bind fun v23 => (p_obj w16 v23 2).bind fun _ => p_call (fBytes_number v23 (l3 + (6 : Int32)) (4 : Int32) w16) <| p_kJ fun v31 w31 => if (lg_cmp v31 (Int32.toInt64 (l2 - l3))) ≤ 0 then (fPartReader_readParts_51 (fPartReader_readParts_5 n9) l0 l2 l3 l4 v31 (0 : Int32) w31) else (fPartReader_readParts_51 (fPartReader_readParts_5 n9) l0 l2 l3 l4 v31 (1 : Int32) w31)))
set_option maxRecDepth 20000 in
set_option maxHeartbeats 2000000 in
theorem t_fPartReader_readParts_5 {Γ : PG} : ∀ (n9 : Nat) (l0 : Nat) (l2 : Int32) (l3 : Int32) (l4 : Int32) (w : PW), EE Γ MPartReader_readParts 5 [(0, .ref l0), (2, .int l2), (3, .int l3), (4, .int l4)] [] w (fPartReader_readParts_5 n9 l0 l2 l3 l4 w) := by
  intro n9
  induction n9 with
  | zero => intro l0 l2 l3 l4 w; exact ee_none
  | succ n9 ih =>
    intro l0 l2 l3 l4 w
    unfold fPartReader_readParts_5
    refine ee_iload 3 dPartReader_readParts_5 rfl ?_
    refine ee_sipush (v := (300 : Int32)) dPartReader_readParts_7 (by decide) ?_
    refine ee_icmp_ge (tgt := 118) dPartReader_readParts_10 (by decide) (fun h10 => ?_) (fun h10 => ?_)
    · exact ee_vret rfl dPartReader_readParts_118
    · refine ee_aload_n 0 dPartReader_readParts_13 rfl ?_
      refine ee_iload_n 2 dPartReader_readParts_14 rfl ?_
      refine ee_iload_n 1 dPartReader_readParts_15 rfl ?_
      refine ee_bind (fun _ ho16 => ?_)
      refine ee_callV (as := [.int l3, .int l2]) (st := []) dPartReader_readParts_16 (t_fPartReader_beginsPart l0 l3 l2 w) my_fPartReader_beginsPart.1 (Nat.le_of_ble_eq_true rfl) my_fPartReader_beginsPart.2 rfl cf_6.1 rfl (p_obj_eq.mp ho16) gw_668 gw_669 gw_670 ⟨Nat.le_of_ble_eq_true rfl, Nat.le_of_ble_eq_true rfl⟩ (Nat.le_of_ble_eq_true rfl) (fun rv16 w16 _ => ?_)
      refine ee_kI (fun v16 => ?_)
      refine ee_if_eq (tgt := 118) dPartReader_readParts_19 (by decide) (fun h19 => ?_) (fun h19 => ?_)
      · exact ee_vret rfl dPartReader_readParts_118
      · refine ee_aload_n 0 dPartReader_readParts_22 rfl ?_
        refine ee_getR dPartReader_readParts_23 lfPartReader_44 (fun v23 _ => ?_)
        refine ee_iload_n 2 dPartReader_readParts_26 rfl ?_
        refine ee_bipush (v := (6 : Int32)) dPartReader_readParts_27 (by decide) ?_
        refine ee_iadd dPartReader_readParts_29 ?_
        refine ee_iconst (v := (4 : Int32)) dPartReader_readParts_30 (by decide) ?_
        refine ee_bind (fun _ ho31 => ?_)
        refine ee_callV (as := [.int (l3 + (6 : Int32)), .int (4 : Int32)]) (st := []) dPartReader_readParts_31 (t_fBytes_number v23 (l3 + (6 : Int32)) (4 : Int32) w16) my_fBytes_number.1 (Nat.le_of_ble_eq_true rfl) my_fBytes_number.2 rfl cf_2.1 rfl (p_obj_eq.mp ho31) gw_673 gw_538 gw_539 ⟨Nat.le_of_ble_eq_true rfl, Nat.le_of_ble_eq_true rfl⟩ (Nat.le_of_ble_eq_true rfl) (fun rv31 w31 _ => ?_)
        refine ee_kJ (fun v31 => ?_)
        refine ee_lstore (lv2 := [(5, .long v31), (0, .ref l0), (2, .int l2), (3, .int l3), (4, .int l4)]) dPartReader_readParts_34 (Nat.le_of_ble_eq_true rfl) rfl ?_
        refine ee_lload 0 dPartReader_readParts_36 rfl ?_
        refine ee_iload_n 2 dPartReader_readParts_38 rfl ?_
        refine ee_iload_n 3 dPartReader_readParts_39 rfl ?_
        refine ee_isub dPartReader_readParts_40 ?_
        refine ee_i2l dPartReader_readParts_41 ?_
        refine ee_lcmp dPartReader_readParts_42 ?_
        refine ee_if_le (tgt := 50) dPartReader_readParts_43 (by decide) (fun h43 => ?_) (fun h43 => ?_)
        · refine ee_iconst (v := (0 : Int32)) dPartReader_readParts_50 (by decide) ?_
          refine ee_pick [1, 2, 3, 4, 0] rfl ?_
          exact t_fPartReader_readParts_51 ih _ _ _ _ _ _ w31
        · refine ee_iconst (v := (1 : Int32)) dPartReader_readParts_46 (by decide) ?_
          refine ee_goto (tgt := 51) dPartReader_readParts_47 (by decide) ?_
          refine ee_pick [1, 2, 3, 4, 0] rfl ?_
          exact t_fPartReader_readParts_51 ih _ _ _ _ _ _ w31
def fPartReader_readParts (l0 : Nat) (l1 : Int32) (l2 : Int32) (w : PW) : PX := fPartReader_readParts_5 FUEL l0 l2 l1 (0 : Int32) w
set_option maxRecDepth 20000 in
set_option maxHeartbeats 2000000 in
theorem t_fPartReader_readParts {Γ : PG} : ∀ (l0 : Nat) (l1 : Int32) (l2 : Int32) (w : PW), EE Γ MPartReader_readParts 0 (lv_args 0 [.ref l0, .int l1, .int l2]) [] w (fPartReader_readParts l0 l1 l2 w) := by
  intro l0 l1 l2 w
  unfold fPartReader_readParts
  show EE Γ MPartReader_readParts 0 [(0, .ref l0), (1, .int l1), (2, .int l2)] [] w _
  refine ee_iload_n 1 dPartReader_readParts_0 rfl ?_
  refine ee_istore_n (lv2 := [(3, .int l1), (0, .ref l0), (1, .int l1), (2, .int l2)]) dPartReader_readParts_1 (Nat.le_of_ble_eq_true rfl) rfl ?_
  refine ee_iconst (v := (0 : Int32)) dPartReader_readParts_2 (by decide) ?_
  refine ee_istore (lv2 := [(4, .int (0 : Int32)), (3, .int l1), (0, .ref l0), (1, .int l1), (2, .int l2)]) dPartReader_readParts_3 (Nat.le_of_ble_eq_true rfl) rfl ?_
  refine ee_pick [2, 4, 1, 0] rfl ?_
  exact t_fPartReader_readParts_5 FUEL _ _ _ _ w
