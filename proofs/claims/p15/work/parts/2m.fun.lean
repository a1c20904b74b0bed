def fD_isPart (l0 : Nat) (l1 : Int32) (w : PW) : PX := (p_getI w l0 10 8).bind fun v4 => p_call (fD_in (Int32.toInt64 l1) (0 : Int64) ((Int32.toInt64 v4) - (1 : Int64)) w) <| p_kI fun v10 w10 => p_retZ v10 w10
set_option maxRecDepth 20000 in
set_option maxHeartbeats 2000000 in
theorem t_fD_isPart {Γ : PG} : ∀ (l0 : Nat) (l1 : Int32) (w : PW), EE Γ MD_isPart 0 (lv_args 0 [.ref l0, .int l1]) [] w (fD_isPart l0 l1 w) := by
  intro l0 l1 w
  unfold fD_isPart
  show EE Γ MD_isPart 0 [(0, .ref l0), (1, .int l1)] [] w _
  refine ee_iload_n 1 dD_isPart_0 rfl ?_
  refine ee_i2l dD_isPart_1 ?_
  refine ee_lconst (v := (0 : Int64)) dD_isPart_2 (by decide) ?_
  refine ee_aload_n 0 dD_isPart_3 rfl ?_
  refine ee_getI dD_isPart_4 lfD_145 (fun v4 _ => ?_)
  refine ee_i2l dD_isPart_7 ?_
  refine ee_lconst (v := (1 : Int64)) dD_isPart_8 (by decide) ?_
  refine ee_lsub dD_isPart_9 ?_
  refine ee_callS (as := [.long (Int32.toInt64 l1), .long (0 : Int64), .long ((Int32.toInt64 v4) - (1 : Int64))]) (st := []) dD_isPart_10 (t_fD_in (Int32.toInt64 l1) (0 : Int64) ((Int32.toInt64 v4) - (1 : Int64)) w) my_fD_in.1 (Nat.le_of_ble_eq_true rfl) my_fD_in.2 rfl gw_1320 gw_1321 ⟨Nat.le_of_ble_eq_true rfl, Nat.le_of_ble_eq_true rfl⟩ (Nat.le_of_ble_eq_true rfl) (fun rv10 w10 _ => ?_)
  refine ee_kI (fun v10 => ?_)
  exact ee_zret rfl dD_isPart_13
def fD_packet_29 (l0 : Nat) (l1 : Int32) (s0 : Int32) (s1 : Nat) (w : PW) : PX := (p_put w s1 10 0 (.int s0)).bind fun w29 => (p_getI w29 l0 10 0).bind fun v33 => if v33 ≤ 0 then ((p_getR w29 l0 10 11).bind fun v42 => (p_getR w29 l0 10 10).bind fun v50 => (p_ald w29 v50 0 l1).bind fun v54 => (p_ast w29 v42 0 (((20 : Int32) * l1) + v54) (0 : Int32)).bind fun w57 => (p_getR w57 l0 10 10).bind fun v59 => (p_ald w57 v59 0 l1).bind fun v64 => (p_ast w57 v59 0 l1 (v64 + (1 : Int32))).bind fun w67 => (p_getR w67 l0 10 10).bind fun v69 => (p_ald w67 v69 0 l1).bind fun v73 => some (.inl (some (.int v73)), w67)) else (some (.inl (some (.int (0 : Int32))), w29))
set_option maxRecDepth 20000 in
set_option maxHeartbeats 2000000 in
theorem t_fD_packet_29 {Γ : PG} : ∀ (l0 : Nat) (l1 : Int32) (s0 : Int32) (s1 : Nat) (w : PW), EE Γ MD_packet 29 [(0, .ref l0), (1, .int l1)] [.int s0, .ref s1] w (fD_packet_29 l0 l1 s0 s1 w) := by
  intro l0 l1 s0 s1 w
  unfold fD_packet_29
  refine ee_put dD_packet_29 lpD_110 (ee_nI _) (fun w29 _ => ?_)
  refine ee_aload_n 0 dD_packet_32 rfl ?_
  refine ee_getI dD_packet_33 lfD_110 (fun v33 _ => ?_)
  refine ee_if_le (tgt := 41) dD_packet_36 (by decide) (fun h36 => ?_) (fun h36 => ?_)
  · refine ee_aload_n 0 dD_packet_41 rfl ?_
    refine ee_getR dD_packet_42 lfD_32 (fun v42 _ => ?_)
    refine ee_bipush (v := (20 : Int32)) dD_packet_45 (by decide) ?_
    refine ee_iload_n 1 dD_packet_47 rfl ?_
    refine ee_imul dD_packet_48 ?_
    refine ee_aload_n 0 dD_packet_49 rfl ?_
    refine ee_getR dD_packet_50 lfD_29 (fun v50 _ => ?_)
    refine ee_iload_n 1 dD_packet_53 rfl ?_
    refine ee_iald (t := 0) dD_packet_54 rfl (fun v54 _ => ?_)
    refine ee_iadd dD_packet_55 ?_
    refine ee_iconst (v := (0 : Int32)) dD_packet_56 (by decide) ?_
    refine ee_iast (t := 0) dD_packet_57 rfl (fun w57 _ => ?_)
    refine ee_aload_n 0 dD_packet_58 rfl ?_
    refine ee_getR dD_packet_59 lfD_29 (fun v59 _ => ?_)
    refine ee_iload_n 1 dD_packet_62 rfl ?_
    refine ee_dup2 dD_packet_63 rfl rfl ?_
    refine ee_iald (t := 0) dD_packet_64 rfl (fun v64 _ => ?_)
    refine ee_iconst (v := (1 : Int32)) dD_packet_65 (by decide) ?_
    refine ee_iadd dD_packet_66 ?_
    refine ee_iast (t := 0) dD_packet_67 rfl (fun w67 _ => ?_)
    refine ee_aload_n 0 dD_packet_68 rfl ?_
    refine ee_getR dD_packet_69 lfD_29 (fun v69 _ => ?_)
    refine ee_iload_n 1 dD_packet_72 rfl ?_
    refine ee_iald (t := 0) dD_packet_73 rfl (fun v73 _ => ?_)
    exact ee_iret rfl dD_packet_74
  · refine ee_iconst (v := (0 : Int32)) dD_packet_39 (by decide) ?_
    exact ee_iret rfl dD_packet_40
def fD_packet (l0 : Nat) (l1 : Int32) (w : PW) : PX := (p_obj w l0 10).bind fun _ => p_call (fD_isPart l0 l1 w) <| p_kI fun v3 w3 => if ¬ v3 = 0 then ((p_getR w3 l0 10 10).bind fun v14 => (p_ald w3 v14 0 l1).bind fun v18 => if ¬ v18 = (20 : Int32) then (fD_packet_29 l0 l1 (0 : Int32) l0 w3) else (fD_packet_29 l0 l1 (2 : Int32) l0 w3)) else (fD_packet_29 l0 l1 (1 : Int32) l0 w3)
set_option maxRecDepth 20000 in
set_option maxHeartbeats 2000000 in
theorem t_fD_packet {Γ : PG} : ∀ (l0 : Nat) (l1 : Int32) (w : PW), EE Γ MD_packet 0 (lv_args 0 [.ref l0, .int l1]) [] w (fD_packet l0 l1 w) := by
  intro l0 l1 w
  unfold fD_packet
  show EE Γ MD_packet 0 [(0, .ref l0), (1, .int l1)] [] w _
  refine ee_aload_n 0 dD_packet_0 rfl ?_
  refine ee_aload_n 0 dD_packet_1 rfl ?_
  refine ee_iload_n 1 dD_packet_2 rfl ?_
  refine ee_bind (fun _ ho3 => ?_)
  refine ee_callV (as := [.int l1]) (st := [.ref l0]) dD_packet_3 (t_fD_isPart l0 l1 w) my_fD_isPart.1 (Nat.le_of_ble_eq_true rfl) my_fD_isPart.2 rfl cf_10.1 rfl (p_obj_eq.mp ho3) gw_1382 gw_1384 gw_18 ⟨Nat.le_of_ble_eq_true rfl, Nat.le_of_ble_eq_true rfl⟩ (Nat.le_of_ble_eq_true rfl) (fun rv3 w3 _ => ?_)
  refine ee_kI (fun v3 => ?_)
  refine ee_if_ne (tgt := 13) dD_packet_6 (by decide) (fun h6 => ?_) (fun h6 => ?_)
  · refine ee_aload_n 0 dD_packet_13 rfl ?_
    refine ee_getR dD_packet_14 lfD_29 (fun v14 _ => ?_)
    refine ee_iload_n 1 dD_packet_17 rfl ?_
    refine ee_iald (t := 0) dD_packet_18 rfl (fun v18 _ => ?_)
    refine ee_bipush (v := (20 : Int32)) dD_packet_19 (by decide) ?_
    refine ee_icmp_ne (tgt := 28) dD_packet_21 (by decide) (fun h21 => ?_) (fun h21 => ?_)
    · refine ee_iconst (v := (0 : Int32)) dD_packet_28 (by decide) ?_
      exact t_fD_packet_29 _ _ _ _ w3
    · refine ee_iconst (v := (2 : Int32)) dD_packet_24 (by decide) ?_
      refine ee_goto (tgt := 29) dD_packet_25 (by decide) ?_
      exact t_fD_packet_29 _ _ _ _ w3
  · refine ee_iconst (v := (1 : Int32)) dD_packet_9 (by decide) ?_
    refine ee_goto (tgt := 29) dD_packet_10 (by decide) ?_
    exact t_fD_packet_29 _ _ _ _ w3
def fD_byteOf_59 (l0 : Nat) (l1 : Int32) (l2 : Int32) (s0 : Int32) (s1 : Nat) (w : PW) : PX := (p_put w s1 10 0 (.int s0)).bind fun w59 => (p_getI w59 l0 10 0).bind fun v63 => if v63 ≤ 0 then ((p_getR w59 l0 10 13).bind fun v72 => (p_getR w59 l0 10 12).bind fun v81 => (p_ald w59 v81 0 l1).bind fun v85 => (p_ast w59 v72 0 (((300 : Int32) * l1) + v85) l2).bind fun w88 => (p_getR w88 l0 10 12).bind fun v90 => (p_ald w88 v90 0 l1).bind fun v95 => (p_ast w88 v90 0 l1 (v95 + (1 : Int32))).bind fun w98 => (p_getR w98 l0 10 11).bind fun v100 => (p_getR w98 l0 10 10).bind fun v108 => (p_ald w98 v108 0 l1).bind fun v112 => (p_ald w98 v100 0 ((((20 : Int32) * l1) + v112) - (1 : Int32))).bind fun v117 => (p_ast w98 v100 0 ((((20 : Int32) * l1) + v112) - (1 : Int32)) (v117 + (1 : Int32))).bind fun w120 => (p_getR w120 l0 10 12).bind fun v122 => (p_ald w120 v122 0 l1).bind fun v126 => some (.inl (some (.int v126)), w120)) else (some (.inl (some (.int (0 : Int32))), w59))
set_option maxRecDepth 20000 in
set_option maxHeartbeats 2000000 in
theorem t_fD_byteOf_59 {Γ : PG} : ∀ (l0 : Nat) (l1 : Int32) (l2 : Int32) (s0 : Int32) (s1 : Nat) (w : PW), EE Γ MD_byteOf 59 [(0, .ref l0), (1, .int l1), (2, .int l2)] [.int s0, .ref s1] w (fD_byteOf_59 l0 l1 l2 s0 s1 w) := by
  intro l0 l1 l2 s0 s1 w
  unfold fD_byteOf_59
  refine ee_put dD_byteOf_59 lpD_110 (ee_nI _) (fun w59 _ => ?_)
  refine ee_aload_n 0 dD_byteOf_62 rfl ?_
  refine ee_getI dD_byteOf_63 lfD_110 (fun v63 _ => ?_)
  refine ee_if_le (tgt := 71) dD_byteOf_66 (by decide) (fun h66 => ?_) (fun h66 => ?_)
  · refine ee_aload_n 0 dD_byteOf_71 rfl ?_
    refine ee_getR dD_byteOf_72 lfD_38 (fun v72 _ => ?_)
    refine ee_sipush (v := (300 : Int32)) dD_byteOf_75 (by decide) ?_
    refine ee_iload_n 1 dD_byteOf_78 rfl ?_
    refine ee_imul dD_byteOf_79 ?_
    refine ee_aload_n 0 dD_byteOf_80 rfl ?_
    refine ee_getR dD_byteOf_81 lfD_35 (fun v81 _ => ?_)
    refine ee_iload_n 1 dD_byteOf_84 rfl ?_
    refine ee_iald (t := 0) dD_byteOf_85 rfl (fun v85 _ => ?_)
    refine ee_iadd dD_byteOf_86 ?_
    refine ee_iload_n 2 dD_byteOf_87 rfl ?_
    refine ee_iast (t := 0) dD_byteOf_88 rfl (fun w88 _ => ?_)
    refine ee_aload_n 0 dD_byteOf_89 rfl ?_
    refine ee_getR dD_byteOf_90 lfD_35 (fun v90 _ => ?_)
    refine ee_iload_n 1 dD_byteOf_93 rfl ?_
    refine ee_dup2 dD_byteOf_94 rfl rfl ?_
    refine ee_iald (t := 0) dD_byteOf_95 rfl (fun v95 _ => ?_)
    refine ee_iconst (v := (1 : Int32)) dD_byteOf_96 (by decide) ?_
    refine ee_iadd dD_byteOf_97 ?_
    refine ee_iast (t := 0) dD_byteOf_98 rfl (fun w98 _ => ?_)
    refine ee_aload_n 0 dD_byteOf_99 rfl ?_
    refine ee_getR dD_byteOf_100 lfD_32 (fun v100 _ => ?_)
    refine ee_bipush (v := (20 : Int32)) dD_byteOf_103 (by decide) ?_
    refine ee_iload_n 1 dD_byteOf_105 rfl ?_
    refine ee_imul dD_byteOf_106 ?_
    refine ee_aload_n 0 dD_byteOf_107 rfl ?_
    refine ee_getR dD_byteOf_108 lfD_29 (fun v108 _ => ?_)
    refine ee_iload_n 1 dD_byteOf_111 rfl ?_
    refine ee_iald (t := 0) dD_byteOf_112 rfl (fun v112 _ => ?_)
    refine ee_iadd dD_byteOf_113 ?_
    refine ee_iconst (v := (1 : Int32)) dD_byteOf_114 (by decide) ?_
    refine ee_isub dD_byteOf_115 ?_
    refine ee_dup2 dD_byteOf_116 rfl rfl ?_
    refine ee_iald (t := 0) dD_byteOf_117 rfl (fun v117 _ => ?_)
    refine ee_iconst (v := (1 : Int32)) dD_byteOf_118 (by decide) ?_
    refine ee_iadd dD_byteOf_119 ?_
    refine ee_iast (t := 0) dD_byteOf_120 rfl (fun w120 _ => ?_)
    refine ee_aload_n 0 dD_byteOf_121 rfl ?_
    refine ee_getR dD_byteOf_122 lfD_35 (fun v122 _ => ?_)
    refine ee_iload_n 1 dD_byteOf_125 rfl ?_
    refine ee_iald (t := 0) dD_byteOf_126 rfl (fun v126 _ => ?_)
    exact ee_iret rfl dD_byteOf_127
  · refine ee_iconst (v := (0 : Int32)) dD_byteOf_69 (by decide) ?_
    exact ee_iret rfl dD_byteOf_70
def fD_byteOf (l0 : Nat) (l1 : Int32) (l2 : Int32) (w : PW) : PX := (p_obj w l0 10).bind fun _ => p_call (fD_isPart l0 l1 w) <| p_kI fun v3 w3 => if ¬ v3 = 0 then ((p_getR w3 l0 10 10).bind fun v14 => (p_ald w3 v14 0 l1).bind fun v18 => if ¬ v18 = 0 then (p_call (fD_in (Int32.toInt64 l2) (0 : Int64) (255 : Int64) w3) <| p_kI fun v32 w32 => if ¬ v32 = 0 then ((p_getR w32 l0 10 12).bind fun v43 => (p_ald w32 v43 0 l1).bind fun v47 => if ¬ v47 = (300 : Int32) then (fD_byteOf_59 l0 l1 l2 (0 : Int32) l0 w32) else (fD_byteOf_59 l0 l1 l2 (4 : Int32) l0 w32)) else (fD_byteOf_59 l0 l1 l2 (3 : Int32) l0 w32)) else (fD_byteOf_59 l0 l1 l2 (2 : Int32) l0 w3)) else (fD_byteOf_59 l0 l1 l2 (1 : Int32) l0 w3)
set_option maxRecDepth 20000 in
set_option maxHeartbeats 2000000 in
theorem t_fD_byteOf {Γ : PG} : ∀ (l0 : Nat) (l1 : Int32) (l2 : Int32) (w : PW), EE Γ MD_byteOf 0 (lv_args 0 [.ref l0, .int l1, .int l2]) [] w (fD_byteOf l0 l1 l2 w) := by
  intro l0 l1 l2 w
  unfold fD_byteOf
  show EE Γ MD_byteOf 0 [(0, .ref l0), (1, .int l1), (2, .int l2)] [] w _
  refine ee_aload_n 0 dD_byteOf_0 rfl ?_
  refine ee_aload_n 0 dD_byteOf_1 rfl ?_
  refine ee_iload_n 1 dD_byteOf_2 rfl ?_
  refine ee_bind (fun _ ho3 => ?_)
  refine ee_callV (as := [.int l1]) (st := [.ref l0]) dD_byteOf_3 (t_fD_isPart l0 l1 w) my_fD_isPart.1 (Nat.le_of_ble_eq_true rfl) my_fD_isPart.2 rfl cf_10.1 rfl (p_obj_eq.mp ho3) gw_1382 gw_1384 gw_18 ⟨Nat.le_of_ble_eq_true rfl, Nat.le_of_ble_eq_true rfl⟩ (Nat.le_of_ble_eq_true rfl) (fun rv3 w3 _ => ?_)
  refine ee_kI (fun v3 => ?_)
  refine ee_if_ne (tgt := 13) dD_byteOf_6 (by decide) (fun h6 => ?_) (fun h6 => ?_)
  · refine ee_aload_n 0 dD_byteOf_13 rfl ?_
    refine ee_getR dD_byteOf_14 lfD_29 (fun v14 _ => ?_)
    refine ee_iload_n 1 dD_byteOf_17 rfl ?_
    refine ee_iald (t := 0) dD_byteOf_18 rfl (fun v18 _ => ?_)
    refine ee_if_ne (tgt := 26) dD_byteOf_19 (by decide) (fun h19 => ?_) (fun h19 => ?_)
    · refine ee_iload_n 2 dD_byteOf_26 rfl ?_
      refine ee_i2l dD_byteOf_27 ?_
      refine ee_lconst (v := (0 : Int64)) dD_byteOf_28 (by decide) ?_
      refine ee_ldc2 (v := (255 : Int64)) dD_byteOf_29 gw_1390 ?_
      refine ee_callS (as := [.long (Int32.toInt64 l2), .long (0 : Int64), .long (255 : Int64)]) (st := [.ref l0]) dD_byteOf_32 (t_fD_in (Int32.toInt64 l2) (0 : Int64) (255 : Int64) w3) my_fD_in.1 (Nat.le_of_ble_eq_true rfl) my_fD_in.2 rfl gw_1320 gw_1321 ⟨Nat.le_of_ble_eq_true rfl, Nat.le_of_ble_eq_true rfl⟩ (Nat.le_of_ble_eq_true rfl) (fun rv32 w32 _ => ?_)
      refine ee_kI (fun v32 => ?_)
      refine ee_if_ne (tgt := 42) dD_byteOf_35 (by decide) (fun h35 => ?_) (fun h35 => ?_)
      · refine ee_aload_n 0 dD_byteOf_42 rfl ?_
        refine ee_getR dD_byteOf_43 lfD_35 (fun v43 _ => ?_)
        refine ee_iload_n 1 dD_byteOf_46 rfl ?_
        refine ee_iald (t := 0) dD_byteOf_47 rfl (fun v47 _ => ?_)
        refine ee_sipush (v := (300 : Int32)) dD_byteOf_48 (by decide) ?_
        refine ee_icmp_ne (tgt := 58) dD_byteOf_51 (by decide) (fun h51 => ?_) (fun h51 => ?_)
        · refine ee_iconst (v := (0 : Int32)) dD_byteOf_58 (by decide) ?_
          exact t_fD_byteOf_59 _ _ _ _ _ w32
        · refine ee_iconst (v := (4 : Int32)) dD_byteOf_54 (by decide) ?_
          refine ee_goto (tgt := 59) dD_byteOf_55 (by decide) ?_
          exact t_fD_byteOf_59 _ _ _ _ _ w32
      · refine ee_iconst (v := (3 : Int32)) dD_byteOf_38 (by decide) ?_
        refine ee_goto (tgt := 59) dD_byteOf_39 (by decide) ?_
        exact t_fD_byteOf_59 _ _ _ _ _ w32
    · refine ee_iconst (v := (2 : Int32)) dD_byteOf_22 (by decide) ?_
      refine ee_goto (tgt := 59) dD_byteOf_23 (by decide) ?_
      exact t_fD_byteOf_59 _ _ _ _ _ w3
  · refine ee_iconst (v := (1 : Int32)) dD_byteOf_9 (by decide) ?_
    refine ee_goto (tgt := 59) dD_byteOf_10 (by decide) ?_
    exact t_fD_byteOf_59 _ _ _ _ _ w3
def fD_isKind_4 : Nat → Int32 → Int32 → Int32 → PW → PX
  | 0, _, _, _, _ => none
  | n9 + 1, l0, l1, l2, w => if (32 : Int32) ≤ l2 then (if l1 = 0 then (p_retZ (0 : Int32) w) else (if l0 = (1783636000 : Int32) then (p_retZ (0 : Int32) w) else (if l0 = (1718909296 : Int32) then (p_retZ (0 : Int32) w) else (if l0 = (1785737832 : Int32) then (p_retZ (0 : Int32) w) else (if l0 = (1768449138 : Int32) then (p_retZ (0 : Int32) w) else (if l0 = (1785737827 : Int32) then (p_retZ (0 : Int32) w) else (p_retZ (1 : Int32) w))))))) else (if l1 = 0 then (p_let (l2 + (8 : Int32)) fun (l2_40 : Int32) => (fD_isKind_4 n9) l0 (0 : Int32) l2_40 w) else (p_call (fD_in (Int32.toInt64 ((p_ishr l0 l2) &&& (255 : Int32))) (32 : Int64) (126 : Int64) w) <| p_kI fun v28 w28 => if v28 = 0 then (p_let (l2 + (8 : Int32)) fun (l2_40 : Int32) => (fD_isKind_4 n9) l0 (0 : Int32) l2_40 w28) else (p_let (l2 + (8 : Int32)) fun (l2_40 : Int32) => (fD_isKind_4 n9) l0 (1 : Int32) l2_40 w28)))
set_option maxRecDepth 20000 in
set_option maxHeartbeats 2000000 in
theorem t_fD_isKind_4 {Γ : PG} : ∀ (n9 : Nat) (l0 : Int32) (l1 : Int32) (l2 : Int32) (w : PW), EE Γ MD_isKind 4 [(0, .int l0), (1, .int l1), (2, .int l2)] [] w (fD_isKind_4 n9 l0 l1 l2 w) := by
  intro n9
  induction n9 with
  | zero => intro l0 l1 l2 w; exact ee_none
  | succ n9 ih =>
    intro l0 l1 l2 w
    unfold fD_isKind_4
    refine ee_iload_n 2 dD_isKind_4 rfl ?_
    refine ee_bipush (v := (32 : Int32)) dD_isKind_5 (by decide) ?_
    refine ee_icmp_ge (tgt := 46) dD_isKind_7 (by decide) (fun h7 => ?_) (fun h7 => ?_)
    · refine ee_iload_n 1 dD_isKind_46 rfl ?_
      refine ee_if_eq (tgt := 84) dD_isKind_47 (by decide) (fun h47 => ?_) (fun h47 => ?_)
      · refine ee_iconst (v := (0 : Int32)) dD_isKind_84 (by decide) ?_
        exact ee_zret rfl dD_isKind_85
      · refine ee_iload_n 0 dD_isKind_50 rfl ?_
        refine ee_ldc (v := (1783636000 : Int32)) dD_isKind_51 gw_1400 ?_
        refine ee_icmp_eq (tgt := 84) dD_isKind_53 (by decide) (fun h53 => ?_) (fun h53 => ?_)
        · refine ee_iconst (v := (0 : Int32)) dD_isKind_84 (by decide) ?_
          exact ee_zret rfl dD_isKind_85
        · refine ee_iload_n 0 dD_isKind_56 rfl ?_
          refine ee_ldc (v := (1718909296 : Int32)) dD_isKind_57 gw_1401 ?_
          refine ee_icmp_eq (tgt := 84) dD_isKind_59 (by decide) (fun h59 => ?_) (fun h59 => ?_)
          · refine ee_iconst (v := (0 : Int32)) dD_isKind_84 (by decide) ?_
            exact ee_zret rfl dD_isKind_85
          · refine ee_iload_n 0 dD_isKind_62 rfl ?_
            refine ee_ldc (v := (1785737832 : Int32)) dD_isKind_63 gw_1402 ?_
            refine ee_icmp_eq (tgt := 84) dD_isKind_65 (by decide) (fun h65 => ?_) (fun h65 => ?_)
            · refine ee_iconst (v := (0 : Int32)) dD_isKind_84 (by decide) ?_
              exact ee_zret rfl dD_isKind_85
            · refine ee_iload_n 0 dD_isKind_68 rfl ?_
              refine ee_ldc (v := (1768449138 : Int32)) dD_isKind_69 gw_1403 ?_
              refine ee_icmp_eq (tgt := 84) dD_isKind_71 (by decide) (fun h71 => ?_) (fun h71 => ?_)
              · refine ee_iconst (v := (0 : Int32)) dD_isKind_84 (by decide) ?_
                exact ee_zret rfl dD_isKind_85
              · refine ee_iload_n 0 dD_isKind_74 rfl ?_
                refine ee_ldc (v := (1785737827 : Int32)) dD_isKind_75 gw_1404 ?_
                refine ee_icmp_eq (tgt := 84) dD_isKind_77 (by decide) (fun h77 => ?_) (fun h77 => ?_)
                · refine ee_iconst (v := (0 : Int32)) dD_isKind_84 (by decide) ?_
                  exact ee_zret rfl dD_isKind_85
                · refine ee_iconst (v := (1 : Int32)) dD_isKind_80 (by decide) ?_
                  refine ee_goto (tgt := 85) dD_isKind_81 (by decide) ?_
                  exact ee_zret rfl dD_isKind_85
    · refine ee_iload_n 1 dD_isKind_10 rfl ?_
      refine ee_if_eq (tgt := 38) dD_isKind_11 (by decide) (fun h11 => ?_) (fun h11 => ?_)
      · refine ee_iconst (v := (0 : Int32)) dD_isKind_38 (by decide) ?_
        refine ee_istore_n (lv2 := [(1, .int (0 : Int32)), (0, .int l0), (2, .int l2)]) dD_isKind_39 (Nat.le_of_ble_eq_true rfl) rfl ?_
        refine ee_iinc 2 dD_isKind_40 rfl (e := (8 : Int32)) (by decide) (Nat.le_of_ble_eq_true rfl) (fun l2_40 _ => ?_)
        refine ee_lv (lv2 := [(2, .int l2_40), (1, .int (0 : Int32)), (0, .int l0)]) rfl ?_
        refine ee_goto (tgt := 4) dD_isKind_43 (by decide) ?_
        refine ee_pick [2, 1, 0] rfl ?_
        exact ih _ _ _ w
      · refine ee_iload_n 0 dD_isKind_14 rfl ?_
        refine ee_iload_n 2 dD_isKind_15 rfl ?_
        refine ee_ishr dD_isKind_16 ?_
        refine ee_sipush (v := (255 : Int32)) dD_isKind_17 (by decide) ?_
        refine ee_iand dD_isKind_20 ?_
        refine ee_i2l dD_isKind_21 ?_
        refine ee_ldc2 (v := (32 : Int64)) dD_isKind_22 gw_1398 ?_
        refine ee_ldc2 (v := (126 : Int64)) dD_isKind_25 gw_1399 ?_
        refine ee_callS (as := [.long (Int32.toInt64 ((p_ishr l0 l2) &&& (255 : Int32))), .long (32 : Int64), .long (126 : Int64)]) (st := []) dD_isKind_28 (t_fD_in (Int32.toInt64 ((p_ishr l0 l2) &&& (255 : Int32))) (32 : Int64) (126 : Int64) w) my_fD_in.1 (Nat.le_of_ble_eq_true rfl) my_fD_in.2 rfl gw_1320 gw_1321 ⟨Nat.le_of_ble_eq_true rfl, Nat.le_of_ble_eq_true rfl⟩ (Nat.le_of_ble_eq_true rfl) (fun rv28 w28 _ => ?_)
        refine ee_kI (fun v28 => ?_)
        refine ee_if_eq (tgt := 38) dD_isKind_31 (by decide) (fun h31 => ?_) (fun h31 => ?_)
        · refine ee_iconst (v := (0 : Int32)) dD_isKind_38 (by decide) ?_
          refine ee_istore_n (lv2 := [(1, .int (0 : Int32)), (0, .int l0), (2, .int l2)]) dD_isKind_39 (Nat.le_of_ble_eq_true rfl) rfl ?_
          refine ee_iinc 2 dD_isKind_40 rfl (e := (8 : Int32)) (by decide) (Nat.le_of_ble_eq_true rfl) (fun l2_40 _ => ?_)
          refine ee_lv (lv2 := [(2, .int l2_40), (1, .int (0 : Int32)), (0, .int l0)]) rfl ?_
          refine ee_goto (tgt := 4) dD_isKind_43 (by decide) ?_
          refine ee_pick [2, 1, 0] rfl ?_
          exact ih _ _ _ w28
        · refine ee_iconst (v := (1 : Int32)) dD_isKind_34 (by decide) ?_
          refine ee_goto (tgt := 39) dD_isKind_35 (by decide) ?_
          refine ee_istore_n (lv2 := [(1, .int (1 : Int32)), (0, .int l0), (2, .int l2)]) dD_isKind_39 (Nat.le_of_ble_eq_true rfl) rfl ?_
          refine ee_iinc 2 dD_isKind_40 rfl (e := (8 : Int32)) (by decide) (Nat.le_of_ble_eq_true rfl) (fun l2_40 _ => ?_)
          refine ee_lv (lv2 := [(2, .int l2_40), (1, .int (1 : Int32)), (0, .int l0)]) rfl ?_
          refine ee_goto (tgt := 4) dD_isKind_43 (by decide) ?_
          refine ee_pick [2, 1, 0] rfl ?_
          exact ih _ _ _ w28
def fD_isKind (l0 : Int32) (w : PW) : PX := fD_isKind_4 FUEL l0 (1 : Int32) (0 : Int32) w
set_option maxRecDepth 20000 in
set_option maxHeartbeats 2000000 in
theorem t_fD_isKind {Γ : PG} : ∀ (l0 : Int32) (w : PW), EE Γ MD_isKind 0 (lv_args 0 [.int l0]) [] w (fD_isKind l0 w) := by
  intro l0 w
  unfold fD_isKind
  show EE Γ MD_isKind 0 [(0, .int l0)] [] w _
  refine ee_iconst (v := (1 : Int32)) dD_isKind_0 (by decide) ?_
  refine ee_istore_n (lv2 := [(1, .int (1 : Int32)), (0, .int l0)]) dD_isKind_1 (Nat.le_of_ble_eq_true rfl) rfl ?_
  refine ee_iconst (v := (0 : Int32)) dD_isKind_2 (by decide) ?_
  refine ee_istore_n (lv2 := [(2, .int (0 : Int32)), (1, .int (1 : Int32)), (0, .int l0)]) dD_isKind_3 (Nat.le_of_ble_eq_true rfl) rfl ?_
  refine ee_pick [2, 1, 0] rfl ?_
  exact t_fD_isKind_4 FUEL _ _ _ w
def fD_box_26 (l0 : Nat) (l1 : Int32) (l2 : Int32) (s0 : Int32) (s1 : Nat) (w : PW) : PX := (p_put w s1 10 0 (.int s0)).bind fun w26 => (p_getI w26 l0 10 0).bind fun v30 => if v30 ≤ 0 then ((p_getR w26 l0 10 15).bind fun v39 => (p_getI w26 l0 10 14).bind fun v43 => (p_ast w26 v39 2 v43 (vp_nar .boolean l1)).bind fun w47 => (p_getR w47 l0 10 16).bind fun v49 => (p_getI w47 l0 10 14).bind fun v53 => (p_ast w47 v49 0 v53 l2).bind fun w57 => (p_getR w57 l0 10 17).bind fun v59 => (p_getI w57 l0 10 14).bind fun v63 => (p_ast w57 v59 0 v63 (0 : Int32)).bind fun w67 => (p_getI w67 l0 10 14).bind fun v70 => (p_put w67 l0 10 14 (.int (v70 + (1 : Int32)))).bind fun w75 => (p_getI w75 l0 10 14).bind fun v79 => some (.inl (some (.int (v79 - (1 : Int32)))), w75)) else (some (.inl (some (.int (0 : Int32))), w26))
set_option maxRecDepth 20000 in
set_option maxHeartbeats 2000000 in
theorem t_fD_box_26 {Γ : PG} : ∀ (l0 : Nat) (l1 : Int32) (l2 : Int32) (s0 : Int32) (s1 : Nat) (w : PW), EE Γ MD_box 26 [(0, .ref l0), (1, .int l1), (2, .int l2)] [.int s0, .ref s1] w (fD_box_26 l0 l1 l2 s0 s1 w) := by
  intro l0 l1 l2 s0 s1 w
  unfold fD_box_26
  refine ee_put dD_box_26 lpD_110 (ee_nI _) (fun w26 _ => ?_)
  refine ee_aload_n 0 dD_box_29 rfl ?_
  refine ee_getI dD_box_30 lfD_110 (fun v30 _ => ?_)
  refine ee_if_le (tgt := 38) dD_box_33 (by decide) (fun h33 => ?_) (fun h33 => ?_)
  · refine ee_aload_n 0 dD_box_38 rfl ?_
    refine ee_getR dD_box_39 lfD_41 (fun v39 _ => ?_)
    refine ee_aload_n 0 dD_box_42 rfl ?_
    refine ee_getI dD_box_43 lfD_209 (fun v43 _ => ?_)
    refine ee_iload_n 1 dD_box_46 rfl ?_
    refine ee_zast (t := 2) dD_box_47 rfl (fun w47 _ => ?_)
    refine ee_aload_n 0 dD_box_48 rfl ?_
    refine ee_getR dD_box_49 lfD_44 (fun v49 _ => ?_)
    refine ee_aload_n 0 dD_box_52 rfl ?_
    refine ee_getI dD_box_53 lfD_209 (fun v53 _ => ?_)
    refine ee_iload_n 2 dD_box_56 rfl ?_
    refine ee_iast (t := 0) dD_box_57 rfl (fun w57 _ => ?_)
    refine ee_aload_n 0 dD_box_58 rfl ?_
    refine ee_getR dD_box_59 lfD_47 (fun v59 _ => ?_)
    refine ee_aload_n 0 dD_box_62 rfl ?_
    refine ee_getI dD_box_63 lfD_209 (fun v63 _ => ?_)
    refine ee_iconst (v := (0 : Int32)) dD_box_66 (by decide) ?_
    refine ee_iast (t := 0) dD_box_67 rfl (fun w67 _ => ?_)
    refine ee_aload_n 0 dD_box_68 rfl ?_
    refine ee_dup dD_box_69 rfl ?_
    refine ee_getI dD_box_70 lfD_209 (fun v70 _ => ?_)
    refine ee_iconst (v := (1 : Int32)) dD_box_73 (by decide) ?_
    refine ee_iadd dD_box_74 ?_
    refine ee_put dD_box_75 lpD_209 (ee_nI _) (fun w75 _ => ?_)
    refine ee_aload_n 0 dD_box_78 rfl ?_
    refine ee_getI dD_box_79 lfD_209 (fun v79 _ => ?_)
    refine ee_iconst (v := (1 : Int32)) dD_box_82 (by decide) ?_
    refine ee_isub dD_box_83 ?_
    exact ee_iret rfl dD_box_84
  · refine ee_iconst (v := (0 : Int32)) dD_box_36 (by decide) ?_
    exact ee_iret rfl dD_box_37
def fD_box (l0 : Nat) (l1 : Int32) (l2 : Int32) (w : PW) : PX := p_call (fD_isKind l2 w) <| p_kI fun v2 w2 => if ¬ v2 = 0 then ((p_getI w2 l0 10 14).bind fun v13 => if ¬ v13 = (8 : Int32) then (fD_box_26 l0 l1 l2 (0 : Int32) l0 w2) else (fD_box_26 l0 l1 l2 (2 : Int32) l0 w2)) else (fD_box_26 l0 l1 l2 (1 : Int32) l0 w2)
set_option maxRecDepth 20000 in
set_option maxHeartbeats 2000000 in
theorem t_fD_box {Γ : PG} : ∀ (l0 : Nat) (l1 : Int32) (l2 : Int32) (w : PW), EE Γ MD_box 0 (lv_args 0 [.ref l0, .int l1, .int l2]) [] w (fD_box l0 l1 l2 w) := by
  intro l0 l1 l2 w
  unfold fD_box
  show EE Γ MD_box 0 [(0, .ref l0), (1, .int l1), (2, .int l2)] [] w _
  refine ee_aload_n 0 dD_box_0 rfl ?_
  refine ee_iload_n 2 dD_box_1 rfl ?_
  refine ee_callS (as := [.int l2]) (st := [.ref l0]) dD_box_2 (t_fD_isKind l2 w) my_fD_isKind.1 (Nat.le_of_ble_eq_true rfl) my_fD_isKind.2 rfl gw_1395 gw_1396 ⟨Nat.le_of_ble_eq_true rfl, Nat.le_of_ble_eq_true rfl⟩ (Nat.le_of_ble_eq_true rfl) (fun rv2 w2 _ => ?_)
  refine ee_kI (fun v2 => ?_)
  refine ee_if_ne (tgt := 12) dD_box_5 (by decide) (fun h5 => ?_) (fun h5 => ?_)
  · refine ee_aload_n 0 dD_box_12 rfl ?_
    refine ee_getI dD_box_13 lfD_209 (fun v13 _ => ?_)
    refine ee_bipush (v := (8 : Int32)) dD_box_16 (by decide) ?_
    refine ee_icmp_ne (tgt := 25) dD_box_18 (by decide) (fun h18 => ?_) (fun h18 => ?_)
    · refine ee_iconst (v := (0 : Int32)) dD_box_25 (by decide) ?_
      exact t_fD_box_26 _ _ _ _ _ w2
    · refine ee_iconst (v := (2 : Int32)) dD_box_21 (by decide) ?_
      refine ee_goto (tgt := 26) dD_box_22 (by decide) ?_
      exact t_fD_box_26 _ _ _ _ _ w2
  · refine ee_iconst (v := (1 : Int32)) dD_box_8 (by decide) ?_
    refine ee_goto (tgt := 26) dD_box_9 (by decide) ?_
    exact t_fD_box_26 _ _ _ _ _ w2
def fD_boxByte_53 (l0 : Nat) (l1 : Int32) (l2 : Int32) (s0 : Int32) (s1 : Nat) (w : PW) : PX := (p_put w s1 10 0 (.int s0)).bind fun w53 => (p_getI w53 l0 10 0).bind fun v57 => if v57 ≤ 0 then ((p_getR w53 l0 10 18).bind fun v66 => (p_getR w53 l0 10 17).bind fun v74 => (p_ald w53 v74 0 l1).bind fun v78 => (p_ast w53 v66 0 (((40 : Int32) * l1) + v78) l2).bind fun w81 => (p_getR w81 l0 10 17).bind fun v83 => (p_ald w81 v83 0 l1).bind fun v88 => (p_ast w81 v83 0 l1 (v88 + (1 : Int32))).bind fun w91 => (p_getR w91 l0 10 17).bind fun v93 => (p_ald w91 v93 0 l1).bind fun v97 => some (.inl (some (.int v97)), w91)) else (some (.inl (some (.int (0 : Int32))), w53))
set_option maxRecDepth 20000 in
set_option maxHeartbeats 2000000 in
theorem t_fD_boxByte_53 {Γ : PG} : ∀ (l0 : Nat) (l1 : Int32) (l2 : Int32) (s0 : Int32) (s1 : Nat) (w : PW), EE Γ MD_boxByte 53 [(0, .ref l0), (1, .int l1), (2, .int l2)] [.int s0, .ref s1] w (fD_boxByte_53 l0 l1 l2 s0 s1 w) := by
  intro l0 l1 l2 s0 s1 w
  unfold fD_boxByte_53
  refine ee_put dD_boxByte_53 lpD_110 (ee_nI _) (fun w53 _ => ?_)
  refine ee_aload_n 0 dD_boxByte_56 rfl ?_
  refine ee_getI dD_boxByte_57 lfD_110 (fun v57 _ => ?_)
  refine ee_if_le (tgt := 65) dD_boxByte_60 (by decide) (fun h60 => ?_) (fun h60 => ?_)
  · refine ee_aload_n 0 dD_boxByte_65 rfl ?_
    refine ee_getR dD_boxByte_66 lfD_50 (fun v66 _ => ?_)
    refine ee_bipush (v := (40 : Int32)) dD_boxByte_69 (by decide) ?_
    refine ee_iload_n 1 dD_boxByte_71 rfl ?_
    refine ee_imul dD_boxByte_72 ?_
    refine ee_aload_n 0 dD_boxByte_73 rfl ?_
    refine ee_getR dD_boxByte_74 lfD_47 (fun v74 _ => ?_)
    refine ee_iload_n 1 dD_boxByte_77 rfl ?_
    refine ee_iald (t := 0) dD_boxByte_78 rfl (fun v78 _ => ?_)
    refine ee_iadd dD_boxByte_79 ?_
    refine ee_iload_n 2 dD_boxByte_80 rfl ?_
    refine ee_iast (t := 0) dD_boxByte_81 rfl (fun w81 _ => ?_)
    refine ee_aload_n 0 dD_boxByte_82 rfl ?_
    refine ee_getR dD_boxByte_83 lfD_47 (fun v83 _ => ?_)
    refine ee_iload_n 1 dD_boxByte_86 rfl ?_
    refine ee_dup2 dD_boxByte_87 rfl rfl ?_
    refine ee_iald (t := 0) dD_boxByte_88 rfl (fun v88 _ => ?_)
    refine ee_iconst (v := (1 : Int32)) dD_boxByte_89 (by decide) ?_
    refine ee_iadd dD_boxByte_90 ?_
    refine ee_iast (t := 0) dD_boxByte_91 rfl (fun w91 _ => ?_)
    refine ee_aload_n 0 dD_boxByte_92 rfl ?_
    refine ee_getR dD_boxByte_93 lfD_47 (fun v93 _ => ?_)
    refine ee_iload_n 1 dD_boxByte_96 rfl ?_
    refine ee_iald (t := 0) dD_boxByte_97 rfl (fun v97 _ => ?_)
    exact ee_iret rfl dD_boxByte_98
  · refine ee_iconst (v := (0 : Int32)) dD_boxByte_63 (by decide) ?_
    exact ee_iret rfl dD_boxByte_64
def fD_boxByte (l0 : Nat) (l1 : Int32) (l2 : Int32) (w : PW) : PX := (p_getI w l0 10 14).bind fun v5 => p_call (fD_in (Int32.toInt64 l1) (0 : Int64) ((Int32.toInt64 v5) - (1 : Int64)) w) <| p_kI fun v11 w11 => if ¬ v11 = 0 then (p_call (fD_in (Int32.toInt64 l2) (0 : Int64) (255 : Int64) w11) <| p_kI fun v27 w27 => if ¬ v27 = 0 then ((p_getR w27 l0 10 17).bind fun v38 => (p_ald w27 v38 0 l1).bind fun v42 => if ¬ v42 = (40 : Int32) then (fD_boxByte_53 l0 l1 l2 (0 : Int32) l0 w27) else (fD_boxByte_53 l0 l1 l2 (3 : Int32) l0 w27)) else (fD_boxByte_53 l0 l1 l2 (2 : Int32) l0 w27)) else (fD_boxByte_53 l0 l1 l2 (1 : Int32) l0 w11)
set_option maxRecDepth 20000 in
set_option maxHeartbeats 2000000 in
theorem t_fD_boxByte {Γ : PG} : ∀ (l0 : Nat) (l1 : Int32) (l2 : Int32) (w : PW), EE Γ MD_boxByte 0 (lv_args 0 [.ref l0, .int l1, .int l2]) [] w (fD_boxByte l0 l1 l2 w) := by
  intro l0 l1 l2 w
  unfold fD_boxByte
  show EE Γ MD_boxByte 0 [(0, .ref l0), (1, .int l1), (2, .int l2)] [] w _
  refine ee_aload_n 0 dD_boxByte_0 rfl ?_
  refine ee_iload_n 1 dD_boxByte_1 rfl ?_
  refine ee_i2l dD_boxByte_2 ?_
  refine ee_lconst (v := (0 : Int64)) dD_boxByte_3 (by decide) ?_
  refine ee_aload_n 0 dD_boxByte_4 rfl ?_
  refine ee_getI dD_boxByte_5 lfD_209 (fun v5 _ => ?_)
  refine ee_i2l dD_boxByte_8 ?_
  refine ee_lconst (v := (1 : Int64)) dD_boxByte_9 (by decide) ?_
  refine ee_lsub dD_boxByte_10 ?_
  refine ee_callS (as := [.long (Int32.toInt64 l1), .long (0 : Int64), .long ((Int32.toInt64 v5) - (1 : Int64))]) (st := [.ref l0]) dD_boxByte_11 (t_fD_in (Int32.toInt64 l1) (0 : Int64) ((Int32.toInt64 v5) - (1 : Int64)) w) my_fD_in.1 (Nat.le_of_ble_eq_true rfl) my_fD_in.2 rfl gw_1320 gw_1321 ⟨Nat.le_of_ble_eq_true rfl, Nat.le_of_ble_eq_true rfl⟩ (Nat.le_of_ble_eq_true rfl) (fun rv11 w11 _ => ?_)
  refine ee_kI (fun v11 => ?_)
  refine ee_if_ne (tgt := 21) dD_boxByte_14 (by decide) (fun h14 => ?_) (fun h14 => ?_)
  · refine ee_iload_n 2 dD_boxByte_21 rfl ?_
    refine ee_i2l dD_boxByte_22 ?_
    refine ee_lconst (v := (0 : Int64)) dD_boxByte_23 (by decide) ?_
    refine ee_ldc2 (v := (255 : Int64)) dD_boxByte_24 gw_1390 ?_
    refine ee_callS (as := [.long (Int32.toInt64 l2), .long (0 : Int64), .long (255 : Int64)]) (st := [.ref l0]) dD_boxByte_27 (t_fD_in (Int32.toInt64 l2) (0 : Int64) (255 : Int64) w11) my_fD_in.1 (Nat.le_of_ble_eq_true rfl) my_fD_in.2 rfl gw_1320 gw_1321 ⟨Nat.le_of_ble_eq_true rfl, Nat.le_of_ble_eq_true rfl⟩ (Nat.le_of_ble_eq_true rfl) (fun rv27 w27 _ => ?_)
    refine ee_kI (fun v27 => ?_)
    refine ee_if_ne (tgt := 37) dD_boxByte_30 (by decide) (fun h30 => ?_) (fun h30 => ?_)
    · refine ee_aload_n 0 dD_boxByte_37 rfl ?_
      refine ee_getR dD_boxByte_38 lfD_47 (fun v38 _ => ?_)
      refine ee_iload_n 1 dD_boxByte_41 rfl ?_
      refine ee_iald (t := 0) dD_boxByte_42 rfl (fun v42 _ => ?_)
      refine ee_bipush (v := (40 : Int32)) dD_boxByte_43 (by decide) ?_
      refine ee_icmp_ne (tgt := 52) dD_boxByte_45 (by decide) (fun h45 => ?_) (fun h45 => ?_)
      · refine ee_iconst (v := (0 : Int32)) dD_boxByte_52 (by decide) ?_
        exact t_fD_boxByte_53 _ _ _ _ _ w27
      · refine ee_iconst (v := (3 : Int32)) dD_boxByte_48 (by decide) ?_
        refine ee_goto (tgt := 53) dD_boxByte_49 (by decide) ?_
        exact t_fD_boxByte_53 _ _ _ _ _ w27
    · refine ee_iconst (v := (2 : Int32)) dD_boxByte_33 (by decide) ?_
      refine ee_goto (tgt := 53) dD_boxByte_34 (by decide) ?_
      exact t_fD_boxByte_53 _ _ _ _ _ w27
  · refine ee_iconst (v := (1 : Int32)) dD_boxByte_17 (by decide) ?_
    refine ee_goto (tgt := 53) dD_boxByte_18 (by decide) ?_
    exact t_fD_boxByte_53 _ _ _ _ _ w11
def fD_lay (l0 : Nat) (l1 : Int32) (w : PW) : PX := (p_getR w l0 10 19).bind fun v1 => (p_getI w l0 10 20).bind fun v5 => (p_ast w v1 0 v5 (l1 &&& (255 : Int32))).bind fun w13 => (p_getI w13 l0 10 20).bind fun v16 => (p_put w13 l0 10 20 (.int (v16 + (1 : Int32)))).bind fun w21 => some (.inl none, w21)
set_option maxRecDepth 20000 in
set_option maxHeartbeats 2000000 in
theorem t_fD_lay {Γ : PG} : ∀ (l0 : Nat) (l1 : Int32) (w : PW), EE Γ MD_lay 0 (lv_args 0 [.ref l0, .int l1]) [] w (fD_lay l0 l1 w) := by
  intro l0 l1 w
  unfold fD_lay
  show EE Γ MD_lay 0 [(0, .ref l0), (1, .int l1)] [] w _
  refine ee_aload_n 0 dD_lay_0 rfl ?_
  refine ee_getR dD_lay_1 lfD_54 (fun v1 _ => ?_)
  refine ee_aload_n 0 dD_lay_4 rfl ?_
  refine ee_getI dD_lay_5 lfD_212 (fun v5 _ => ?_)
  refine ee_iload_n 1 dD_lay_8 rfl ?_
  refine ee_sipush (v := (255 : Int32)) dD_lay_9 (by decide) ?_
  refine ee_iand dD_lay_12 ?_
  refine ee_iast (t := 0) dD_lay_13 rfl (fun w13 _ => ?_)
  refine ee_aload_n 0 dD_lay_14 rfl ?_
  refine ee_dup dD_lay_15 rfl ?_
  refine ee_getI dD_lay_16 lfD_212 (fun v16 _ => ?_)
  refine ee_iconst (v := (1 : Int32)) dD_lay_19 (by decide) ?_
  refine ee_iadd dD_lay_20 ?_
  refine ee_put dD_lay_21 lpD_212 (ee_nI _) (fun w21 _ => ?_)
  exact ee_vret rfl dD_lay_24
def fD_layTwo (l0 : Nat) (l1 : Int32) (w : PW) : PX := (p_obj w l0 10).bind fun _ => p_call (fD_lay l0 (p_ishr l1 (8 : Int32)) w) <| p_kV fun w5 => (p_obj w5 l0 10).bind fun _ => p_call (fD_lay l0 l1 w5) <| p_kV fun w10 => some (.inl none, w10)
set_option maxRecDepth 20000 in
set_option maxHeartbeats 2000000 in
theorem t_fD_layTwo {Γ : PG} : ∀ (l0 : Nat) (l1 : Int32) (w : PW), EE Γ MD_layTwo 0 (lv_args 0 [.ref l0, .int l1]) [] w (fD_layTwo l0 l1 w) := by
  intro l0 l1 w
  unfold fD_layTwo
  show EE Γ MD_layTwo 0 [(0, .ref l0), (1, .int l1)] [] w _
  refine ee_aload_n 0 dD_layTwo_0 rfl ?_
  refine ee_iload_n 1 dD_layTwo_1 rfl ?_
  refine ee_bipush (v := (8 : Int32)) dD_layTwo_2 (by decide) ?_
  refine ee_ishr dD_layTwo_4 ?_
  refine ee_bind (fun _ ho5 => ?_)
  refine ee_callV (as := [.int (p_ishr l1 (8 : Int32))]) (st := []) dD_layTwo_5 (t_fD_lay l0 (p_ishr l1 (8 : Int32)) w) my_fD_lay.1 (Nat.le_of_ble_eq_true rfl) my_fD_lay.2 rfl cf_10.1 rfl (p_obj_eq.mp ho5) gw_1425 gw_1427 gw_22 ⟨Nat.le_of_ble_eq_true rfl, Nat.le_of_ble_eq_true rfl⟩ (Nat.le_of_ble_eq_true rfl) (fun rv5 w5 _ => ?_)
  refine ee_kV ?_
  refine ee_aload_n 0 dD_layTwo_8 rfl ?_
  refine ee_iload_n 1 dD_layTwo_9 rfl ?_
  refine ee_bind (fun _ ho10 => ?_)
  refine ee_callV (as := [.int l1]) (st := []) dD_layTwo_10 (t_fD_lay l0 l1 w5) my_fD_lay.1 (Nat.le_of_ble_eq_true rfl) my_fD_lay.2 rfl cf_10.1 rfl (p_obj_eq.mp ho10) gw_1425 gw_1427 gw_22 ⟨Nat.le_of_ble_eq_true rfl, Nat.le_of_ble_eq_true rfl⟩ (Nat.le_of_ble_eq_true rfl) (fun rv10 w10 _ => ?_)
  refine ee_kV ?_
  exact ee_vret rfl dD_layTwo_13
def fD_layFour (l0 : Nat) (l1 : Int32) (w : PW) : PX := (p_obj w l0 10).bind fun _ => p_call (fD_layTwo l0 (p_ushr l1 (16 : Int32)) w) <| p_kV fun w5 => (p_obj w5 l0 10).bind fun _ => p_call (fD_layTwo l0 (l1 &&& (65535 : Int32)) w5) <| p_kV fun w13 => some (.inl none, w13)
set_option maxRecDepth 20000 in
set_option maxHeartbeats 2000000 in
theorem t_fD_layFour {Γ : PG} : ∀ (l0 : Nat) (l1 : Int32) (w : PW), EE Γ MD_layFour 0 (lv_args 0 [.ref l0, .int l1]) [] w (fD_layFour l0 l1 w) := by
  intro l0 l1 w
  unfold fD_layFour
  show EE Γ MD_layFour 0 [(0, .ref l0), (1, .int l1)] [] w _
  refine ee_aload_n 0 dD_layFour_0 rfl ?_
  refine ee_iload_n 1 dD_layFour_1 rfl ?_
  refine ee_bipush (v := (16 : Int32)) dD_layFour_2 (by decide) ?_
  refine ee_iushr dD_layFour_4 ?_
  refine ee_bind (fun _ ho5 => ?_)
  refine ee_callV (as := [.int (p_ushr l1 (16 : Int32))]) (st := []) dD_layFour_5 (t_fD_layTwo l0 (p_ushr l1 (16 : Int32)) w) my_fD_layTwo.1 (Nat.le_of_ble_eq_true rfl) my_fD_layTwo.2 rfl cf_10.1 rfl (p_obj_eq.mp ho5) gw_1421 gw_1423 gw_21 ⟨Nat.le_of_ble_eq_true rfl, Nat.le_of_ble_eq_true rfl⟩ (Nat.le_of_ble_eq_true rfl) (fun rv5 w5 _ => ?_)
  refine ee_kV ?_
  refine ee_aload_n 0 dD_layFour_8 rfl ?_
  refine ee_iload_n 1 dD_layFour_9 rfl ?_
  refine ee_ldc (v := (65535 : Int32)) dD_layFour_10 gw_1429 ?_
  refine ee_iand dD_layFour_12 ?_
  refine ee_bind (fun _ ho13 => ?_)
  refine ee_callV (as := [.int (l1 &&& (65535 : Int32))]) (st := []) dD_layFour_13 (t_fD_layTwo l0 (l1 &&& (65535 : Int32)) w5) my_fD_layTwo.1 (Nat.le_of_ble_eq_true rfl) my_fD_layTwo.2 rfl cf_10.1 rfl (p_obj_eq.mp ho13) gw_1421 gw_1423 gw_21 ⟨Nat.le_of_ble_eq_true rfl, Nat.le_of_ble_eq_true rfl⟩ (Nat.le_of_ble_eq_true rfl) (fun rv13 w13 _ => ?_)
  refine ee_kV ?_
  exact ee_vret rfl dD_layFour_16
def fD_layMark (l0 : Nat) (l1 : Int32) (l2 : Int32) (w : PW) : PX := (p_obj w l0 10).bind fun _ => p_call (fD_lay l0 (255 : Int32) w) <| p_kV fun w4 => (p_obj w4 l0 10).bind fun _ => p_call (fD_lay l0 l1 w4) <| p_kV fun w9 => (p_obj w9 l0 10).bind fun _ => p_call (fD_layTwo l0 l2 w9) <| p_kV fun w14 => some (.inl none, w14)
set_option maxRecDepth 20000 in
set_option maxHeartbeats 2000000 in
theorem t_fD_layMark {Γ : PG} : ∀ (l0 : Nat) (l1 : Int32) (l2 : Int32) (w : PW), EE Γ MD_layMark 0 (lv_args 0 [.ref l0, .int l1, .int l2]) [] w (fD_layMark l0 l1 l2 w) := by
  intro l0 l1 l2 w
  unfold fD_layMark
  show EE Γ MD_layMark 0 [(0, .ref l0), (1, .int l1), (2, .int l2)] [] w _
  refine ee_aload_n 0 dD_layMark_0 rfl ?_
  refine ee_sipush (v := (255 : Int32)) dD_layMark_1 (by decide) ?_
  refine ee_bind (fun _ ho4 => ?_)
  refine ee_callV (as := [.int (255 : Int32)]) (st := []) dD_layMark_4 (t_fD_lay l0 (255 : Int32) w) my_fD_lay.1 (Nat.le_of_ble_eq_true rfl) my_fD_lay.2 rfl cf_10.1 rfl (p_obj_eq.mp ho4) gw_1425 gw_1427 gw_22 ⟨Nat.le_of_ble_eq_true rfl, Nat.le_of_ble_eq_true rfl⟩ (Nat.le_of_ble_eq_true rfl) (fun rv4 w4 _ => ?_)
  refine ee_kV ?_
  refine ee_aload_n 0 dD_layMark_7 rfl ?_
  refine ee_iload_n 1 dD_layMark_8 rfl ?_
  refine ee_bind (fun _ ho9 => ?_)
  refine ee_callV (as := [.int l1]) (st := []) dD_layMark_9 (t_fD_lay l0 l1 w4) my_fD_lay.1 (Nat.le_of_ble_eq_true rfl) my_fD_lay.2 rfl cf_10.1 rfl (p_obj_eq.mp ho9) gw_1425 gw_1427 gw_22 ⟨Nat.le_of_ble_eq_true rfl, Nat.le_of_ble_eq_true rfl⟩ (Nat.le_of_ble_eq_true rfl) (fun rv9 w9 _ => ?_)
  refine ee_kV ?_
  refine ee_aload_n 0 dD_layMark_12 rfl ?_
  refine ee_iload_n 2 dD_layMark_13 rfl ?_
  refine ee_bind (fun _ ho14 => ?_)
  refine ee_callV (as := [.int l2]) (st := []) dD_layMark_14 (t_fD_layTwo l0 l2 w9) my_fD_layTwo.1 (Nat.le_of_ble_eq_true rfl) my_fD_layTwo.2 rfl cf_10.1 rfl (p_obj_eq.mp ho14) gw_1421 gw_1423 gw_21 ⟨Nat.le_of_ble_eq_true rfl, Nat.le_of_ble_eq_true rfl⟩ (Nat.le_of_ble_eq_true rfl) (fun rv14 w14 _ => ?_)
  refine ee_kV ?_
  exact ee_vret rfl dD_layMark_17
def fD_layStyle (l0 : Nat) (l1 : Int32) (w : PW) : PX := (p_obj w l0 10).bind fun _ => p_call (fD_get l0 l1 (6 : Int32) w) <| p_kI fun v5 w5 => (p_obj w5 l0 10).bind fun _ => p_call (fD_lay l0 v5 w5) <| p_kV fun w8 => (p_obj w8 l0 10).bind fun _ => p_call (fD_get l0 l1 (7 : Int32) w8) <| p_kI fun v16 w16 => (p_obj w16 l0 10).bind fun _ => p_call (fD_lay l0 (v16 - (2 : Int32)) w16) <| p_kV fun w21 => (p_obj w21 l0 10).bind fun _ => p_call (fD_get l0 l1 (7 : Int32) w21) <| p_kI fun v29 w29 => (p_obj w29 l0 10).bind fun _ => p_call (fD_lay l0 (v29 - (2 : Int32)) w29) <| p_kV fun w34 => (p_obj w34 l0 10).bind fun _ => p_call (fD_lay l0 (0 : Int32) w34) <| p_kV fun w39 => (p_obj w39 l0 10).bind fun _ => p_call (fD_get l0 l1 (8 : Int32) w39) <| p_kI fun v47 w47 => (p_obj w47 l0 10).bind fun _ => p_call (fD_lay l0 v47 w47) <| p_kV fun w50 => some (.inl none, w50)
set_option maxRecDepth 20000 in
set_option maxHeartbeats 2000000 in
theorem t_fD_layStyle {Γ : PG} : ∀ (l0 : Nat) (l1 : Int32) (w : PW), EE Γ MD_layStyle 0 (lv_args 0 [.ref l0, .int l1]) [] w (fD_layStyle l0 l1 w) := by
  intro l0 l1 w
  unfold fD_layStyle
  show EE Γ MD_layStyle 0 [(0, .ref l0), (1, .int l1)] [] w _
  refine ee_aload_n 0 dD_layStyle_0 rfl ?_
  refine ee_aload_n 0 dD_layStyle_1 rfl ?_
  refine ee_iload_n 1 dD_layStyle_2 rfl ?_
  refine ee_bipush (v := (6 : Int32)) dD_layStyle_3 (by decide) ?_
  refine ee_bind (fun _ ho5 => ?_)
  refine ee_callV (as := [.int l1, .int (6 : Int32)]) (st := [.ref l0]) dD_layStyle_5 (t_fD_get l0 l1 (6 : Int32) w) my_fD_get.1 (Nat.le_of_ble_eq_true rfl) my_fD_get.2 rfl cf_10.1 rfl (p_obj_eq.mp ho5) gw_1366 gw_1368 gw_16 ⟨Nat.le_of_ble_eq_true rfl, Nat.le_of_ble_eq_true rfl⟩ (Nat.le_of_ble_eq_true rfl) (fun rv5 w5 _ => ?_)
  refine ee_kI (fun v5 => ?_)
  refine ee_bind (fun _ ho8 => ?_)
  refine ee_callV (as := [.int v5]) (st := []) dD_layStyle_8 (t_fD_lay l0 v5 w5) my_fD_lay.1 (Nat.le_of_ble_eq_true rfl) my_fD_lay.2 rfl cf_10.1 rfl (p_obj_eq.mp ho8) gw_1425 gw_1427 gw_22 ⟨Nat.le_of_ble_eq_true rfl, Nat.le_of_ble_eq_true rfl⟩ (Nat.le_of_ble_eq_true rfl) (fun rv8 w8 _ => ?_)
  refine ee_kV ?_
  refine ee_aload_n 0 dD_layStyle_11 rfl ?_
  refine ee_aload_n 0 dD_layStyle_12 rfl ?_
  refine ee_iload_n 1 dD_layStyle_13 rfl ?_
  refine ee_bipush (v := (7 : Int32)) dD_layStyle_14 (by decide) ?_
  refine ee_bind (fun _ ho16 => ?_)
  refine ee_callV (as := [.int l1, .int (7 : Int32)]) (st := [.ref l0]) dD_layStyle_16 (t_fD_get l0 l1 (7 : Int32) w8) my_fD_get.1 (Nat.le_of_ble_eq_true rfl) my_fD_get.2 rfl cf_10.1 rfl (p_obj_eq.mp ho16) gw_1366 gw_1368 gw_16 ⟨Nat.le_of_ble_eq_true rfl, Nat.le_of_ble_eq_true rfl⟩ (Nat.le_of_ble_eq_true rfl) (fun rv16 w16 _ => ?_)
  refine ee_kI (fun v16 => ?_)
  refine ee_iconst (v := (2 : Int32)) dD_layStyle_19 (by decide) ?_
  refine ee_isub dD_layStyle_20 ?_
  refine ee_bind (fun _ ho21 => ?_)
  refine ee_callV (as := [.int (v16 - (2 : Int32))]) (st := []) dD_layStyle_21 (t_fD_lay l0 (v16 - (2 : Int32)) w16) my_fD_lay.1 (Nat.le_of_ble_eq_true rfl) my_fD_lay.2 rfl cf_10.1 rfl (p_obj_eq.mp ho21) gw_1425 gw_1427 gw_22 ⟨Nat.le_of_ble_eq_true rfl, Nat.le_of_ble_eq_true rfl⟩ (Nat.le_of_ble_eq_true rfl) (fun rv21 w21 _ => ?_)
  refine ee_kV ?_
  refine ee_aload_n 0 dD_layStyle_24 rfl ?_
  refine ee_aload_n 0 dD_layStyle_25 rfl ?_
  refine ee_iload_n 1 dD_layStyle_26 rfl ?_
  refine ee_bipush (v := (7 : Int32)) dD_layStyle_27 (by decide) ?_
  refine ee_bind (fun _ ho29 => ?_)
  refine ee_callV (as := [.int l1, .int (7 : Int32)]) (st := [.ref l0]) dD_layStyle_29 (t_fD_get l0 l1 (7 : Int32) w21) my_fD_get.1 (Nat.le_of_ble_eq_true rfl) my_fD_get.2 rfl cf_10.1 rfl (p_obj_eq.mp ho29) gw_1366 gw_1368 gw_16 ⟨Nat.le_of_ble_eq_true rfl, Nat.le_of_ble_eq_true rfl⟩ (Nat.le_of_ble_eq_true rfl) (fun rv29 w29 _ => ?_)
  refine ee_kI (fun v29 => ?_)
  refine ee_iconst (v := (2 : Int32)) dD_layStyle_32 (by decide) ?_
  refine ee_isub dD_layStyle_33 ?_
  refine ee_bind (fun _ ho34 => ?_)
  refine ee_callV (as := [.int (v29 - (2 : Int32))]) (st := []) dD_layStyle_34 (t_fD_lay l0 (v29 - (2 : Int32)) w29) my_fD_lay.1 (Nat.le_of_ble_eq_true rfl) my_fD_lay.2 rfl cf_10.1 rfl (p_obj_eq.mp ho34) gw_1425 gw_1427 gw_22 ⟨Nat.le_of_ble_eq_true rfl, Nat.le_of_ble_eq_true rfl⟩ (Nat.le_of_ble_eq_true rfl) (fun rv34 w34 _ => ?_)
  refine ee_kV ?_
  refine ee_aload_n 0 dD_layStyle_37 rfl ?_
  refine ee_iconst (v := (0 : Int32)) dD_layStyle_38 (by decide) ?_
  refine ee_bind (fun _ ho39 => ?_)
  refine ee_callV (as := [.int (0 : Int32)]) (st := []) dD_layStyle_39 (t_fD_lay l0 (0 : Int32) w34) my_fD_lay.1 (Nat.le_of_ble_eq_true rfl) my_fD_lay.2 rfl cf_10.1 rfl (p_obj_eq.mp ho39) gw_1425 gw_1427 gw_22 ⟨Nat.le_of_ble_eq_true rfl, Nat.le_of_ble_eq_true rfl⟩ (Nat.le_of_ble_eq_true rfl) (fun rv39 w39 _ => ?_)
  refine ee_kV ?_
  refine ee_aload_n 0 dD_layStyle_42 rfl ?_
  refine ee_aload_n 0 dD_layStyle_43 rfl ?_
  refine ee_iload_n 1 dD_layStyle_44 rfl ?_
  refine ee_bipush (v := (8 : Int32)) dD_layStyle_45 (by decide) ?_
  refine ee_bind (fun _ ho47 => ?_)
  refine ee_callV (as := [.int l1, .int (8 : Int32)]) (st := [.ref l0]) dD_layStyle_47 (t_fD_get l0 l1 (8 : Int32) w39) my_fD_get.1 (Nat.le_of_ble_eq_true rfl) my_fD_get.2 rfl cf_10.1 rfl (p_obj_eq.mp ho47) gw_1366 gw_1368 gw_16 ⟨Nat.le_of_ble_eq_true rfl, Nat.le_of_ble_eq_true rfl⟩ (Nat.le_of_ble_eq_true rfl) (fun rv47 w47 _ => ?_)
  refine ee_kI (fun v47 => ?_)
  refine ee_bind (fun _ ho50 => ?_)
  refine ee_callV (as := [.int v47]) (st := []) dD_layStyle_50 (t_fD_lay l0 v47 w47) my_fD_lay.1 (Nat.le_of_ble_eq_true rfl) my_fD_lay.2 rfl cf_10.1 rfl (p_obj_eq.mp ho50) gw_1425 gw_1427 gw_22 ⟨Nat.le_of_ble_eq_true rfl, Nat.le_of_ble_eq_true rfl⟩ (Nat.le_of_ble_eq_true rfl) (fun rv50 w50 _ => ?_)
  refine ee_kV ?_
  exact ee_vret rfl dD_layStyle_53
def fD_layStep (l0 : Nat) (l1 : Int32) (w : PW) : PX := (p_obj w l0 10).bind fun _ => p_call (fD_get l0 l1 (10 : Int32) w) <| p_kI fun v7 w7 => (p_obj w7 l0 10).bind fun _ => p_call (fD_lay l0 (((32 : Int32) * v7) + (1 : Int32)) w7) <| p_kV fun w13 => (p_obj w13 l0 10).bind fun _ => p_call (fD_get l0 l1 (9 : Int32) w13) <| p_kI fun v24 w24 => (p_obj w24 l0 10).bind fun _ => p_call (fD_layTwo l0 ((2048 : Int32) * v24) w24) <| p_kV fun w28 => some (.inl none, w28)
set_option maxRecDepth 20000 in
set_option maxHeartbeats 2000000 in
theorem t_fD_layStep {Γ : PG} : ∀ (l0 : Nat) (l1 : Int32) (w : PW), EE Γ MD_layStep 0 (lv_args 0 [.ref l0, .int l1]) [] w (fD_layStep l0 l1 w) := by
  intro l0 l1 w
  unfold fD_layStep
  show EE Γ MD_layStep 0 [(0, .ref l0), (1, .int l1)] [] w _
  refine ee_aload_n 0 dD_layStep_0 rfl ?_
  refine ee_bipush (v := (32 : Int32)) dD_layStep_1 (by decide) ?_
  refine ee_aload_n 0 dD_layStep_3 rfl ?_
  refine ee_iload_n 1 dD_layStep_4 rfl ?_
  refine ee_bipush (v := (10 : Int32)) dD_layStep_5 (by decide) ?_
  refine ee_bind (fun _ ho7 => ?_)
  refine ee_callV (as := [.int l1, .int (10 : Int32)]) (st := [.int (32 : Int32), .ref l0]) dD_layStep_7 (t_fD_get l0 l1 (10 : Int32) w) my_fD_get.1 (Nat.le_of_ble_eq_true rfl) my_fD_get.2 rfl cf_10.1 rfl (p_obj_eq.mp ho7) gw_1366 gw_1368 gw_16 ⟨Nat.le_of_ble_eq_true rfl, Nat.le_of_ble_eq_true rfl⟩ (Nat.le_of_ble_eq_true rfl) (fun rv7 w7 _ => ?_)
  refine ee_kI (fun v7 => ?_)
  refine ee_imul dD_layStep_10 ?_
  refine ee_iconst (v := (1 : Int32)) dD_layStep_11 (by decide) ?_
  refine ee_iadd dD_layStep_12 ?_
  refine ee_bind (fun _ ho13 => ?_)
  refine ee_callV (as := [.int (((32 : Int32) * v7) + (1 : Int32))]) (st := []) dD_layStep_13 (t_fD_lay l0 (((32 : Int32) * v7) + (1 : Int32)) w7) my_fD_lay.1 (Nat.le_of_ble_eq_true rfl) my_fD_lay.2 rfl cf_10.1 rfl (p_obj_eq.mp ho13) gw_1425 gw_1427 gw_22 ⟨Nat.le_of_ble_eq_true rfl, Nat.le_of_ble_eq_true rfl⟩ (Nat.le_of_ble_eq_true rfl) (fun rv13 w13 _ => ?_)
  refine ee_kV ?_
  refine ee_aload_n 0 dD_layStep_16 rfl ?_
  refine ee_sipush (v := (2048 : Int32)) dD_layStep_17 (by decide) ?_
  refine ee_aload_n 0 dD_layStep_20 rfl ?_
  refine ee_iload_n 1 dD_layStep_21 rfl ?_
  refine ee_bipush (v := (9 : Int32)) dD_layStep_22 (by decide) ?_
  refine ee_bind (fun _ ho24 => ?_)
  refine ee_callV (as := [.int l1, .int (9 : Int32)]) (st := [.int (2048 : Int32), .ref l0]) dD_layStep_24 (t_fD_get l0 l1 (9 : Int32) w13) my_fD_get.1 (Nat.le_of_ble_eq_true rfl) my_fD_get.2 rfl cf_10.1 rfl (p_obj_eq.mp ho24) gw_1366 gw_1368 gw_16 ⟨Nat.le_of_ble_eq_true rfl, Nat.le_of_ble_eq_true rfl⟩ (Nat.le_of_ble_eq_true rfl) (fun rv24 w24 _ => ?_)
  refine ee_kI (fun v24 => ?_)
  refine ee_imul dD_layStep_27 ?_
  refine ee_bind (fun _ ho28 => ?_)
  refine ee_callV (as := [.int ((2048 : Int32) * v24)]) (st := []) dD_layStep_28 (t_fD_layTwo l0 ((2048 : Int32) * v24) w24) my_fD_layTwo.1 (Nat.le_of_ble_eq_true rfl) my_fD_layTwo.2 rfl cf_10.1 rfl (p_obj_eq.mp ho28) gw_1421 gw_1423 gw_21 ⟨Nat.le_of_ble_eq_true rfl, Nat.le_of_ble_eq_true rfl⟩ (Nat.le_of_ble_eq_true rfl) (fun rv28 w28 _ => ?_)
  refine ee_kV ?_
  exact ee_vret rfl dD_layStep_31
def fD_laySegments_175 (k_116 : Nat → Int32 → Int32 → PW → PX) (l0 : Nat) (l1 : Int32) (l2 : Int32) (l3 : Int32) (w : PW) : PX := (p_obj w l0 10).bind fun _ => p_call (fD_layStep l0 l3 w) <| p_kV fun w177 => p_let (l2 + (1 : Int32)) fun (l2_180 : Int32) => k_116 l0 l1 l2_180 w177
set_option maxRecDepth 20000 in
set_option maxHeartbeats 2000000 in
theorem t_fD_laySegments_175 {Γ : PG} {k_116 : Nat → Int32 → Int32 → PW → PX} (hk_116 : ∀ (l0 : Nat) (l1 : Int32) (l2 : Int32) (w : PW), EE Γ MD_laySegments 116 [(0, .ref l0), (1, .int l1), (2, .int l2)] [] w (k_116 l0 l1 l2 w)) : ∀ (l0 : Nat) (l1 : Int32) (l2 : Int32) (l3 : Int32) (w : PW), EE Γ MD_laySegments 175 [(0, .ref l0), (1, .int l1), (2, .int l2), (3, .int l3)] [] w (fD_laySegments_175 k_116 l0 l1 l2 l3 w) := by
  intro l0 l1 l2 l3 w
  unfold fD_laySegments_175
  refine ee_aload_n 0 dD_laySegments_175 rfl ?_
  refine ee_iload_n 3 dD_laySegments_176 rfl ?_
  refine ee_bind (fun _ ho177 => ?_)
  refine ee_callV (as := [.int l3]) (st := []) dD_laySegments_177 (t_fD_layStep l0 l3 w) my_fD_layStep.1 (Nat.le_of_ble_eq_true rfl) my_fD_layStep.2 rfl cf_10.1 rfl (p_obj_eq.mp ho177) gw_1451 gw_1453 gw_28 ⟨Nat.le_of_ble_eq_true rfl, Nat.le_of_ble_eq_true rfl⟩ (Nat.le_of_ble_eq_true rfl) (fun rv177 w177 _ => ?_)
  refine ee_kV ?_
  refine ee_iinc 2 dD_laySegments_180 rfl (e := (1 : Int32)) (by decide) (Nat.le_of_ble_eq_true rfl) (fun l2_180 _ => ?_)
  refine ee_lv (lv2 := [(2, .int l2_180), (0, .ref l0), (1, .int l1), (3, .int l3)]) rfl ?_
  refine ee_goto (tgt := 116) dD_laySegments_183 (by decide) ?_
  refine ee_pick [1, 2, 0] rfl ?_
  exact hk_116 _ _ _ w177
def fD_laySegments_163 (k_116 : Nat → Int32 → Int32 → PW → PX) (l0 : Nat) (l1 : Int32) (l2 : Int32) (l3 : Int32) (s0 : Int32) (s1 : Int32) (s2 : Nat) (w : PW) : PX := (p_obj w s2 10).bind fun _ => p_call (fD_layMark s2 s1 s0 w) <| p_kV fun w163 => if l2 < 0 then (fD_laySegments_175 k_116 l0 l1 l2 l3 w163) else ((p_obj w163 l0 10).bind fun _ => p_call (fD_lay l0 l2 w163) <| p_kV fun w172 => fD_laySegments_175 k_116 l0 l1 l2 l3 w172)
set_option maxRecDepth 20000 in
set_option maxHeartbeats 2000000 in
theorem t_fD_laySegments_163 {Γ : PG} {k_116 : Nat → Int32 → Int32 → PW → PX} (hk_116 : ∀ (l0 : Nat) (l1 : Int32) (l2 : Int32) (w : PW), EE Γ MD_laySegments 116 [(0, .ref l0), (1, .int l1), (2, .int l2)] [] w (k_116 l0 l1 l2 w)) : ∀ (l0 : Nat) (l1 : Int32) (l2 : Int32) (l3 : Int32) (s0 : Int32) (s1 : Int32) (s2 : Nat) (w : PW), EE Γ MD_laySegments 163 [(0, .ref l0), (1, .int l1), (2, .int l2), (3, .int l3)] [.int s0, .int s1, .ref s2] w (fD_laySegments_163 k_116 l0 l1 l2 l3 s0 s1 s2 w) := by
  intro l0 l1 l2 l3 s0 s1 s2 w
  unfold fD_laySegments_163
  refine ee_bind (fun _ ho163 => ?_)
  refine ee_callV (as := [.int s1, .int s0]) (st := []) dD_laySegments_163 (t_fD_layMark s2 s1 s0 w) my_fD_layMark.1 (Nat.le_of_ble_eq_true rfl) my_fD_layMark.2 rfl cf_10.1 rfl (p_obj_eq.mp ho163) gw_1439 gw_1441 gw_25 ⟨Nat.le_of_ble_eq_true rfl, Nat.le_of_ble_eq_true rfl⟩ (Nat.le_of_ble_eq_true rfl) (fun rv163 w163 _ => ?_)
  refine ee_kV ?_
  refine ee_iload_n 2 dD_laySegments_166 rfl ?_
  refine ee_if_lt (tgt := 175) dD_laySegments_167 (by decide) (fun h167 => ?_) (fun h167 => ?_)
  · exact t_fD_laySegments_175 hk_116 _ _ _ _ w163
  · refine ee_aload_n 0 dD_laySegments_170 rfl ?_
    refine ee_iload_n 2 dD_laySegments_171 rfl ?_
    refine ee_bind (fun _ ho172 => ?_)
    refine ee_callV (as := [.int l2]) (st := []) dD_laySegments_172 (t_fD_lay l0 l2 w163) my_fD_lay.1 (Nat.le_of_ble_eq_true rfl) my_fD_lay.2 rfl cf_10.1 rfl (p_obj_eq.mp ho172) gw_1425 gw_1427 gw_22 ⟨Nat.le_of_ble_eq_true rfl, Nat.le_of_ble_eq_true rfl⟩ (Nat.le_of_ble_eq_true rfl) (fun rv172 w172 _ => ?_)
    refine ee_kV ?_
    exact t_fD_laySegments_175 hk_116 _ _ _ _ w172
def fD_laySegments_153 (k_116 : Nat → Int32 → Int32 → PW → PX) (l0 : Nat) (l1 : Int32) (l2 : Int32) (l3 : Int32) (s0 : Int32) (s1 : Nat) (w : PW) : PX := if 0 ≤ l2 then (fD_laySegments_163 k_116 l0 l1 l2 l3 (6 : Int32) s0 s1 w) else (fD_laySegments_163 k_116 l0 l1 l2 l3 (5 : Int32) s0 s1 w)
set_option maxRecDepth 20000 in
set_option maxHeartbeats 2000000 in
theorem t_fD_laySegments_153 {Γ : PG} {k_116 : Nat → Int32 → Int32 → PW → PX} (hk_116 : ∀ (l0 : Nat) (l1 : Int32) (l2 : Int32) (w : PW), EE Γ MD_laySegments 116 [(0, .ref l0), (1, .int l1), (2, .int l2)] [] w (k_116 l0 l1 l2 w)) : ∀ (l0 : Nat) (l1 : Int32) (l2 : Int32) (l3 : Int32) (s0 : Int32) (s1 : Nat) (w : PW), EE Γ MD_laySegments 153 [(0, .ref l0), (1, .int l1), (2, .int l2), (3, .int l3)] [.int s0, .ref s1] w (fD_laySegments_153 k_116 l0 l1 l2 l3 s0 s1 w) := by
  intro l0 l1 l2 l3 s0 s1 w
  unfold fD_laySegments_153
  refine ee_iload_n 2 dD_laySegments_153 rfl ?_
  refine ee_if_ge (tgt := 161) dD_laySegments_154 (by decide) (fun h154 => ?_) (fun h154 => ?_)
  · refine ee_bipush (v := (6 : Int32)) dD_laySegments_161 (by decide) ?_
    exact t_fD_laySegments_163 hk_116 _ _ _ _ _ _ _ w
  · refine ee_iconst (v := (5 : Int32)) dD_laySegments_157 (by decide) ?_
    refine ee_goto (tgt := 163) dD_laySegments_158 (by decide) ?_
    exact t_fD_laySegments_163 hk_116 _ _ _ _ _ _ _ w
def fD_laySegments_116 : Nat → Nat → Int32 → Int32 → PW → PX
  | 0, _, _, _, _ => none
  | n9 + 1, l0, l1, l2, w => (p_getR w l0 10 7).bind fun v118 => (p_ald w v118 0 (2 : Int32)).bind fun v122 => if v122 ≤ l2 then (some (.inl none, w)) else (p_call (fD_placeOf l1 l2 w) <| p_kI fun v128 w128 => (p_getR w128 l0 10 5).bind fun v133 => (p_ald w128 v133 2 v128).bind fun v137 => if v137 = 0 then (p_let (l2 + (1 : Int32)) fun (l2_180 : Int32) => (fD_laySegments_116 n9) l0 l1 l2_180 w128) else (if 0 ≤ l2 then (fD_laySegments_153 (fD_laySegments_116 n9) l0 l1 l2 v128 (93 : Int32) l0 w128) else (fD_laySegments_153 (fD_laySegments_116 n9) l0 l1 l2 v128 (92 : Int32) l0 w128)))
set_option maxRecDepth 20000 in
set_option maxHeartbeats 2000000 in
theorem t_fD_laySegments_116 {Γ : PG} : ∀ (n9 : Nat) (l0 : Nat) (l1 : Int32) (l2 : Int32) (w : PW), EE Γ MD_laySegments 116 [(0, .ref l0), (1, .int l1), (2, .int l2)] [] w (fD_laySegments_116 n9 l0 l1 l2 w) := by
  intro n9
  induction n9 with
  | zero => intro l0 l1 l2 w; exact ee_none
  | succ n9 ih =>
    intro l0 l1 l2 w
    unfold fD_laySegments_116
    refine ee_iload_n 2 dD_laySegments_116 rfl ?_
    refine ee_aload_n 0 dD_laySegments_117 rfl ?_
    refine ee_getR dD_laySegments_118 lfD_23 (fun v118 _ => ?_)
    refine ee_iconst (v := (2 : Int32)) dD_laySegments_121 (by decide) ?_
    refine ee_iald (t := 0) dD_laySegments_122 rfl (fun v122 _ => ?_)
    refine ee_icmp_ge (tgt := 186) dD_laySegments_123 (by decide) (fun h123 => ?_) (fun h123 => ?_)
    · exact ee_vret rfl dD_laySegments_186
    · refine ee_iload_n 1 dD_laySegments_126 rfl ?_
      refine ee_iload_n 2 dD_laySegments_127 rfl ?_
      refine ee_callS (as := [.int l1, .int l2]) (st := []) dD_laySegments_128 (t_fD_placeOf l1 l2 w) my_fD_placeOf.1 (Nat.le_of_ble_eq_true rfl) my_fD_placeOf.2 rfl gw_1356 gw_1357 ⟨Nat.le_of_ble_eq_true rfl, Nat.le_of_ble_eq_true rfl⟩ (Nat.le_of_ble_eq_true rfl) (fun rv128 w128 _ => ?_)
      refine ee_kI (fun v128 => ?_)
      refine ee_istore_n (lv2 := [(3, .int v128), (0, .ref l0), (1, .int l1), (2, .int l2)]) dD_laySegments_131 (Nat.le_of_ble_eq_true rfl) rfl ?_
      refine ee_aload_n 1 dD_laySegments_132 rfl ?_
      refine ee_getR dD_laySegments_133 lfD_17 (fun v133 _ => ?_)
      refine ee_iload_n 0 dD_laySegments_136 rfl ?_
      refine ee_zald (t := 2) dD_laySegments_137 rfl (fun v137 _ => ?_)
      refine ee_if_eq (tgt := 180) dD_laySegments_138 (by decide) (fun h138 => ?_) (fun h138 => ?_)
      · refine ee_iinc 3 dD_laySegments_180 rfl (e := (1 : Int32)) (by decide) (Nat.le_of_ble_eq_true rfl) (fun l2_180 _ => ?_)
        refine ee_lv (lv2 := [(2, .int l2_180), (3, .int v128), (0, .ref l0), (1, .int l1)]) rfl ?_
        refine ee_goto (tgt := 116) dD_laySegments_183 (by decide) ?_
        refine ee_pick [2, 3, 0] rfl ?_
        exact ih _ _ _ w128
      · refine ee_aload_n 1 dD_laySegments_141 rfl ?_
        refine ee_iload_n 3 dD_laySegments_142 rfl ?_
        refine ee_if_ge (tgt := 151) dD_laySegments_143 (by decide) (fun h143 => ?_) (fun h143 => ?_)
        · refine ee_bipush (v := (93 : Int32)) dD_laySegments_151 (by decide) ?_
          refine ee_pick [1, 2, 3, 0] rfl ?_
          exact t_fD_laySegments_153 ih _ _ _ _ _ _ w128
        · refine ee_bipush (v := (92 : Int32)) dD_laySegments_146 (by decide) ?_
          refine ee_goto (tgt := 153) dD_laySegments_148 (by decide) ?_
          refine ee_pick [1, 2, 3, 0] rfl ?_
          exact t_fD_laySegments_153 ih _ _ _ _ _ _ w128
def fD_laySegments_103 (k_2 : Nat → Int32 → Int32 → PW → PX) (l0 : Nat) (l1 : Int32) (l2 : Int32) (l3 : Int32) (w : PW) : PX := (p_obj w l0 10).bind fun _ => p_call (fD_layStyle l0 l3 w) <| p_kV fun w105 => p_let (l2 + (1 : Int32)) fun (l2_108 : Int32) => k_2 l0 l1 l2_108 w105
set_option maxRecDepth 20000 in
set_option maxHeartbeats 2000000 in
theorem t_fD_laySegments_103 {Γ : PG} {k_2 : Nat → Int32 → Int32 → PW → PX} (hk_2 : ∀ (l0 : Nat) (l1 : Int32) (l2 : Int32) (w : PW), EE Γ MD_laySegments 2 [(0, .ref l0), (1, .int l1), (2, .int l2)] [] w (k_2 l0 l1 l2 w)) : ∀ (l0 : Nat) (l1 : Int32) (l2 : Int32) (l3 : Int32) (w : PW), EE Γ MD_laySegments 103 [(0, .ref l0), (1, .int l1), (2, .int l2), (3, .int l3)] [] w (fD_laySegments_103 k_2 l0 l1 l2 l3 w) := by
  intro l0 l1 l2 l3 w
  unfold fD_laySegments_103
  refine ee_aload_n 0 dD_laySegments_103 rfl ?_
  refine ee_iload_n 3 dD_laySegments_104 rfl ?_
  refine ee_bind (fun _ ho105 => ?_)
  refine ee_callV (as := [.int l3]) (st := []) dD_laySegments_105 (t_fD_layStyle l0 l3 w) my_fD_layStyle.1 (Nat.le_of_ble_eq_true rfl) my_fD_layStyle.2 rfl cf_10.1 rfl (p_obj_eq.mp ho105) gw_1447 gw_1449 gw_27 ⟨Nat.le_of_ble_eq_true rfl, Nat.le_of_ble_eq_true rfl⟩ (Nat.le_of_ble_eq_true rfl) (fun rv105 w105 _ => ?_)
  refine ee_kV ?_
  refine ee_iinc 2 dD_laySegments_108 rfl (e := (1 : Int32)) (by decide) (Nat.le_of_ble_eq_true rfl) (fun l2_108 _ => ?_)
  refine ee_lv (lv2 := [(2, .int l2_108), (0, .ref l0), (1, .int l1), (3, .int l3)]) rfl ?_
  refine ee_goto (tgt := 2) dD_laySegments_111 (by decide) ?_
  refine ee_pick [1, 2, 0] rfl ?_
  exact hk_2 _ _ _ w105
def fD_laySegments_53 (k_2 : Nat → Int32 → Int32 → PW → PX) (l0 : Nat) (l1 : Int32) (l2 : Int32) (l3 : Int32) (s0 : Int32) (s1 : Int32) (s2 : Nat) (w : PW) : PX := (p_obj w s2 10).bind fun _ => p_call (fD_layMark s2 s1 s0 w) <| p_kV fun w53 => if 0 ≤ l2 then ((p_obj w53 l0 10).bind fun _ => p_call (fD_lay l0 l2 w53) <| p_kV fun w95 => (p_obj w95 l0 10).bind fun _ => p_call (fD_lay l0 (0 : Int32) w95) <| p_kV fun w100 => fD_laySegments_103 k_2 l0 l1 l2 l3 w100) else ((p_obj w53 l0 10).bind fun _ => p_call (fD_lay l0 (0 : Int32) w53) <| p_kV fun w62 => (p_obj w62 l0 10).bind fun _ => p_call (fD_get l0 l3 (4 : Int32) w62) <| p_kI fun v69 w69 => (p_obj w69 l0 10).bind fun _ => p_call (fD_lay l0 v69 w69) <| p_kV fun w72 => (p_obj w72 l0 10).bind fun _ => p_call (fD_get l0 l3 (5 : Int32) w72) <| p_kI fun v79 w79 => (p_obj w79 l0 10).bind fun _ => p_call (fD_layTwo l0 v79 w79) <| p_kV fun w82 => (p_obj w82 l0 10).bind fun _ => p_call (fD_lay l0 (0 : Int32) w82) <| p_kV fun w87 => fD_laySegments_103 k_2 l0 l1 l2 l3 w87)
set_option maxRecDepth 20000 in
set_option maxHeartbeats 2000000 in
theorem t_fD_laySegments_53 {Γ : PG} {k_2 : Nat → Int32 → Int32 → PW → PX} (hk_2 : ∀ (l0 : Nat) (l1 : Int32) (l2 : Int32) (w : PW), EE Γ MD_laySegments 2 [(0, .ref l0), (1, .int l1), (2, .int l2)] [] w (k_2 l0 l1 l2 w)) : ∀ (l0 : Nat) (l1 : Int32) (l2 : Int32) (l3 : Int32) (s0 : Int32) (s1 : Int32) (s2 : Nat) (w : PW), EE Γ MD_laySegments 53 [(0, .ref l0), (1, .int l1), (2, .int l2), (3, .int l3)] [.int s0, .int s1, .ref s2] w (fD_laySegments_53 k_2 l0 l1 l2 l3 s0 s1 s2 w) := by
  intro l0 l1 l2 l3 s0 s1 s2 w
  unfold fD_laySegments_53
  refine ee_bind (fun _ ho53 => ?_)
  refine ee_callV (as := [.int s1, .int s0]) (st := []) dD_laySegments_53 (t_fD_layMark s2 s1 s0 w) my_fD_layMark.1 (Nat.le_of_ble_eq_true rfl) my_fD_layMark.2 rfl cf_10.1 rfl (p_obj_eq.mp ho53) gw_1439 gw_1441 gw_25 ⟨Nat.le_of_ble_eq_true rfl, Nat.le_of_ble_eq_true rfl⟩ (Nat.le_of_ble_eq_true rfl) (fun rv53 w53 _ => ?_)
  refine ee_kV ?_
  refine ee_iload_n 2 dD_laySegments_56 rfl ?_
  refine ee_if_ge (tgt := 93) dD_laySegments_57 (by decide) (fun h57 => ?_) (fun h57 => ?_)
  · refine ee_aload_n 0 dD_laySegments_93 rfl ?_
    refine ee_iload_n 2 dD_laySegments_94 rfl ?_
    refine ee_bind (fun _ ho95 => ?_)
    refine ee_callV (as := [.int l2]) (st := []) dD_laySegments_95 (t_fD_lay l0 l2 w53) my_fD_lay.1 (Nat.le_of_ble_eq_true rfl) my_fD_lay.2 rfl cf_10.1 rfl (p_obj_eq.mp ho95) gw_1425 gw_1427 gw_22 ⟨Nat.le_of_ble_eq_true rfl, Nat.le_of_ble_eq_true rfl⟩ (Nat.le_of_ble_eq_true rfl) (fun rv95 w95 _ => ?_)
    refine ee_kV ?_
    refine ee_aload_n 0 dD_laySegments_98 rfl ?_
    refine ee_iconst (v := (0 : Int32)) dD_laySegments_99 (by decide) ?_
    refine ee_bind (fun _ ho100 => ?_)
    refine ee_callV (as := [.int (0 : Int32)]) (st := []) dD_laySegments_100 (t_fD_lay l0 (0 : Int32) w95) my_fD_lay.1 (Nat.le_of_ble_eq_true rfl) my_fD_lay.2 rfl cf_10.1 rfl (p_obj_eq.mp ho100) gw_1425 gw_1427 gw_22 ⟨Nat.le_of_ble_eq_true rfl, Nat.le_of_ble_eq_true rfl⟩ (Nat.le_of_ble_eq_true rfl) (fun rv100 w100 _ => ?_)
    refine ee_kV ?_
    exact t_fD_laySegments_103 hk_2 _ _ _ _ w100
  · refine ee_aload_n 0 dD_laySegments_60 rfl ?_
    refine ee_iconst (v := (0 : Int32)) dD_laySegments_61 (by decide) ?_
    refine ee_bind (fun _ ho62 => ?_)
    refine ee_callV (as := [.int (0 : Int32)]) (st := []) dD_laySegments_62 (t_fD_lay l0 (0 : Int32) w53) my_fD_lay.1 (Nat.le_of_ble_eq_true rfl) my_fD_lay.2 rfl cf_10.1 rfl (p_obj_eq.mp ho62) gw_1425 gw_1427 gw_22 ⟨Nat.le_of_ble_eq_true rfl, Nat.le_of_ble_eq_true rfl⟩ (Nat.le_of_ble_eq_true rfl) (fun rv62 w62 _ => ?_)
    refine ee_kV ?_
    refine ee_aload_n 0 dD_laySegments_65 rfl ?_
    refine ee_aload_n 0 dD_laySegments_66 rfl ?_
    refine ee_iload_n 3 dD_laySegments_67 rfl ?_
    refine ee_iconst (v := (4 : Int32)) dD_laySegments_68 (by decide) ?_
    refine ee_bind (fun _ ho69 => ?_)
    refine ee_callV (as := [.int l3, .int (4 : Int32)]) (st := [.ref l0]) dD_laySegments_69 (t_fD_get l0 l3 (4 : Int32) w62) my_fD_get.1 (Nat.le_of_ble_eq_true rfl) my_fD_get.2 rfl cf_10.1 rfl (p_obj_eq.mp ho69) gw_1366 gw_1368 gw_16 ⟨Nat.le_of_ble_eq_true rfl, Nat.le_of_ble_eq_true rfl⟩ (Nat.le_of_ble_eq_true rfl) (fun rv69 w69 _ => ?_)
    refine ee_kI (fun v69 => ?_)
    refine ee_bind (fun _ ho72 => ?_)
    refine ee_callV (as := [.int v69]) (st := []) dD_laySegments_72 (t_fD_lay l0 v69 w69) my_fD_lay.1 (Nat.le_of_ble_eq_true rfl) my_fD_lay.2 rfl cf_10.1 rfl (p_obj_eq.mp ho72) gw_1425 gw_1427 gw_22 ⟨Nat.le_of_ble_eq_true rfl, Nat.le_of_ble_eq_true rfl⟩ (Nat.le_of_ble_eq_true rfl) (fun rv72 w72 _ => ?_)
    refine ee_kV ?_
    refine ee_aload_n 0 dD_laySegments_75 rfl ?_
    refine ee_aload_n 0 dD_laySegments_76 rfl ?_
    refine ee_iload_n 3 dD_laySegments_77 rfl ?_
    refine ee_iconst (v := (5 : Int32)) dD_laySegments_78 (by decide) ?_
    refine ee_bind (fun _ ho79 => ?_)
    refine ee_callV (as := [.int l3, .int (5 : Int32)]) (st := [.ref l0]) dD_laySegments_79 (t_fD_get l0 l3 (5 : Int32) w72) my_fD_get.1 (Nat.le_of_ble_eq_true rfl) my_fD_get.2 rfl cf_10.1 rfl (p_obj_eq.mp ho79) gw_1366 gw_1368 gw_16 ⟨Nat.le_of_ble_eq_true rfl, Nat.le_of_ble_eq_true rfl⟩ (Nat.le_of_ble_eq_true rfl) (fun rv79 w79 _ => ?_)
    refine ee_kI (fun v79 => ?_)
    refine ee_bind (fun _ ho82 => ?_)
    refine ee_callV (as := [.int v79]) (st := []) dD_laySegments_82 (t_fD_layTwo l0 v79 w79) my_fD_layTwo.1 (Nat.le_of_ble_eq_true rfl) my_fD_layTwo.2 rfl cf_10.1 rfl (p_obj_eq.mp ho82) gw_1421 gw_1423 gw_21 ⟨Nat.le_of_ble_eq_true rfl, Nat.le_of_ble_eq_true rfl⟩ (Nat.le_of_ble_eq_true rfl) (fun rv82 w82 _ => ?_)
    refine ee_kV ?_
    refine ee_aload_n 0 dD_laySegments_85 rfl ?_
    refine ee_iconst (v := (0 : Int32)) dD_laySegments_86 (by decide) ?_
    refine ee_bind (fun _ ho87 => ?_)
    refine ee_callV (as := [.int (0 : Int32)]) (st := []) dD_laySegments_87 (t_fD_lay l0 (0 : Int32) w82) my_fD_lay.1 (Nat.le_of_ble_eq_true rfl) my_fD_lay.2 rfl cf_10.1 rfl (p_obj_eq.mp ho87) gw_1425 gw_1427 gw_22 ⟨Nat.le_of_ble_eq_true rfl, Nat.le_of_ble_eq_true rfl⟩ (Nat.le_of_ble_eq_true rfl) (fun rv87 w87 _ => ?_)
    refine ee_kV ?_
    refine ee_goto (tgt := 103) dD_laySegments_90 (by decide) ?_
    exact t_fD_laySegments_103 hk_2 _ _ _ _ w87
def fD_laySegments_42 (k_2 : Nat → Int32 → Int32 → PW → PX) (l0 : Nat) (l1 : Int32) (l2 : Int32) (l3 : Int32) (s0 : Int32) (s1 : Nat) (w : PW) : PX := if 0 ≤ l2 then (fD_laySegments_53 k_2 l0 l1 l2 l3 (9 : Int32) s0 s1 w) else (fD_laySegments_53 k_2 l0 l1 l2 l3 (12 : Int32) s0 s1 w)
set_option maxRecDepth 20000 in
set_option maxHeartbeats 2000000 in
theorem t_fD_laySegments_42 {Γ : PG} {k_2 : Nat → Int32 → Int32 → PW → PX} (hk_2 : ∀ (l0 : Nat) (l1 : Int32) (l2 : Int32) (w : PW), EE Γ MD_laySegments 2 [(0, .ref l0), (1, .int l1), (2, .int l2)] [] w (k_2 l0 l1 l2 w)) : ∀ (l0 : Nat) (l1 : Int32) (l2 : Int32) (l3 : Int32) (s0 : Int32) (s1 : Nat) (w : PW), EE Γ MD_laySegments 42 [(0, .ref l0), (1, .int l1), (2, .int l2), (3, .int l3)] [.int s0, .ref s1] w (fD_laySegments_42 k_2 l0 l1 l2 l3 s0 s1 w) := by
  intro l0 l1 l2 l3 s0 s1 w
  unfold fD_laySegments_42
  refine ee_iload_n 2 dD_laySegments_42 rfl ?_
  refine ee_if_ge (tgt := 51) dD_laySegments_43 (by decide) (fun h43 => ?_) (fun h43 => ?_)
  · refine ee_bipush (v := (9 : Int32)) dD_laySegments_51 (by decide) ?_
    exact t_fD_laySegments_53 hk_2 _ _ _ _ _ _ _ w
  · refine ee_bipush (v := (12 : Int32)) dD_laySegments_46 (by decide) ?_
    refine ee_goto (tgt := 53) dD_laySegments_48 (by decide) ?_
    exact t_fD_laySegments_53 hk_2 _ _ _ _ _ _ _ w
def fD_laySegments_2 : Nat → Nat → Int32 → Int32 → PW → PX
  | 0, _, _, _, _ => none
  | n9 + 1, l0, l1, l2, w => (p_getR w l0 10 7).bind fun v4 => (p_ald w v4 0 (2 : Int32)).bind fun v8 => if v8 ≤ l2 then (fD_laySegments_116 FUEL l0 l1 (-1 : Int32) w) else (p_call (fD_placeOf l1 l2 w) <| p_kI fun v14 w14 => (p_getR w14 l0 10 4).bind fun v19 => (p_ald w14 v19 2 v14).bind fun v23 => if ¬ v23 = 0 then (if 0 ≤ l2 then (fD_laySegments_42 (fD_laySegments_2 n9) l0 l1 l2 v14 (83 : Int32) l0 w14) else (fD_laySegments_42 (fD_laySegments_2 n9) l0 l1 l2 v14 (82 : Int32) l0 w14)) else (p_let (l2 + (1 : Int32)) fun (l2_108 : Int32) => (fD_laySegments_2 n9) l0 l1 l2_108 w14))
set_option maxRecDepth 20000 in
set_option maxHeartbeats 2000000 in
theorem t_fD_laySegments_2 {Γ : PG} : ∀ (n9 : Nat) (l0 : Nat) (l1 : Int32) (l2 : Int32) (w : PW), EE Γ MD_laySegments 2 [(0, .ref l0), (1, .int l1), (2, .int l2)] [] w (fD_laySegments_2 n9 l0 l1 l2 w) := by
  intro n9
  induction n9 with
  | zero => intro l0 l1 l2 w; exact ee_none
  | succ n9 ih =>
    intro l0 l1 l2 w
    unfold fD_laySegments_2
    refine ee_iload_n 2 dD_laySegments_2 rfl ?_
    refine ee_aload_n 0 dD_laySegments_3 rfl ?_
    refine ee_getR dD_laySegments_4 lfD_23 (fun v4 _ => ?_)
    refine ee_iconst (v := (2 : Int32)) dD_laySegments_7 (by decide) ?_
    refine ee_iald (t := 0) dD_laySegments_8 rfl (fun v8 _ => ?_)
    refine ee_icmp_ge (tgt := 114) dD_laySegments_9 (by decide) (fun h9 => ?_) (fun h9 => ?_)
    · refine ee_iconst (v := (-1 : Int32)) dD_laySegments_114 (by decide) ?_
      refine ee_istore_n (lv2 := [(2, .int (-1 : Int32)), (0, .ref l0), (1, .int l1)]) dD_laySegments_115 (Nat.le_of_ble_eq_true rfl) rfl ?_
      refine ee_pick [1, 2, 0] rfl ?_
      exact t_fD_laySegments_116 FUEL _ _ _ w
    · refine ee_iload_n 1 dD_laySegments_12 rfl ?_
      refine ee_iload_n 2 dD_laySegments_13 rfl ?_
      refine ee_callS (as := [.int l1, .int l2]) (st := []) dD_laySegments_14 (t_fD_placeOf l1 l2 w) my_fD_placeOf.1 (Nat.le_of_ble_eq_true rfl) my_fD_placeOf.2 rfl gw_1356 gw_1357 ⟨Nat.le_of_ble_eq_true rfl, Nat.le_of_ble_eq_true rfl⟩ (Nat.le_of_ble_eq_true rfl) (fun rv14 w14 _ => ?_)
      refine ee_kI (fun v14 => ?_)
      refine ee_istore_n (lv2 := [(3, .int v14), (0, .ref l0), (1, .int l1), (2, .int l2)]) dD_laySegments_17 (Nat.le_of_ble_eq_true rfl) rfl ?_
      refine ee_aload_n 1 dD_laySegments_18 rfl ?_
      refine ee_getR dD_laySegments_19 lfD_13 (fun v19 _ => ?_)
      refine ee_iload_n 0 dD_laySegments_22 rfl ?_
      refine ee_zald (t := 2) dD_laySegments_23 rfl (fun v23 _ => ?_)
      refine ee_if_ne (tgt := 30) dD_laySegments_24 (by decide) (fun h24 => ?_) (fun h24 => ?_)
      · refine ee_aload_n 1 dD_laySegments_30 rfl ?_
        refine ee_iload_n 3 dD_laySegments_31 rfl ?_
        refine ee_if_ge (tgt := 40) dD_laySegments_32 (by decide) (fun h32 => ?_) (fun h32 => ?_)
        · refine ee_bipush (v := (83 : Int32)) dD_laySegments_40 (by decide) ?_
          refine ee_pick [1, 2, 3, 0] rfl ?_
          exact t_fD_laySegments_42 ih _ _ _ _ _ _ w14
        · refine ee_bipush (v := (82 : Int32)) dD_laySegments_35 (by decide) ?_
          refine ee_goto (tgt := 42) dD_laySegments_37 (by decide) ?_
          refine ee_pick [1, 2, 3, 0] rfl ?_
          exact t_fD_laySegments_42 ih _ _ _ _ _ _ w14
      · refine ee_goto (tgt := 108) dD_laySegments_27 (by decide) ?_
        refine ee_iinc 3 dD_laySegments_108 rfl (e := (1 : Int32)) (by decide) (Nat.le_of_ble_eq_true rfl) (fun l2_108 _ => ?_)
        refine ee_lv (lv2 := [(2, .int l2_108), (3, .int v14), (0, .ref l0), (1, .int l1)]) rfl ?_
        refine ee_goto (tgt := 2) dD_laySegments_111 (by decide) ?_
        refine ee_pick [2, 3, 0] rfl ?_
        exact ih _ _ _ w14
def fD_laySegments (l0 : Nat) (l1 : Int32) (w : PW) : PX := fD_laySegments_2 FUEL l0 l1 (-1 : Int32) w
set_option maxRecDepth 20000 in
set_option maxHeartbeats 2000000 in
theorem t_fD_laySegments {Γ : PG} : ∀ (l0 : Nat) (l1 : Int32) (w : PW), EE Γ MD_laySegments 0 (lv_args 0 [.ref l0, .int l1]) [] w (fD_laySegments l0 l1 w) := by
  intro l0 l1 w
  unfold fD_laySegments
  show EE Γ MD_laySegments 0 [(0, .ref l0), (1, .int l1)] [] w _
  refine ee_iconst (v := (-1 : Int32)) dD_laySegments_0 (by decide) ?_
  refine ee_istore_n (lv2 := [(2, .int (-1 : Int32)), (0, .ref l0), (1, .int l1)]) dD_laySegments_1 (Nat.le_of_ble_eq_true rfl) rfl ?_
  refine ee_pick [1, 2, 0] rfl ?_
  exact t_fD_laySegments_2 FUEL _ _ _ w
