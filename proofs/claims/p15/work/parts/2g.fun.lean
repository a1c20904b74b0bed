def fHeadReader_readHead_96 (l0 : Nat) (l3 : Int32) (w : PW) : PX := (p_put w l0 3 2 (.int l3)).bind fun w98 => (p_getR w98 l0 3 1).bind fun v102 => (p_obj w98 v102 7).bind fun _ => p_call (fSettings_hasStyleAndStepForAll v102 w98) <| p_kI fun v105 w105 => if v105 = 0 then (some (.inl (some (.int l3)), w105)) else (some (.inl (some (.int (-1 : Int32))), w105))
set_option maxRecDepth 20000 in
set_option maxHeartbeats 2000000 in
theorem t_fHeadReader_readHead_96 {Γ : PG} : ∀ (l0 : Nat) (l3 : Int32) (w : PW), EE Γ MHeadReader_readHead 96 [(0, .ref l0), (3, .int l3)] [] w (fHeadReader_readHead_96 l0 l3 w) := by
  intro l0 l3 w
  unfold fHeadReader_readHead_96
  refine ee_aload_n 0 dHeadReader_readHead_96 rfl ?_
  refine ee_iload_n 1 dHeadReader_readHead_97 rfl ?_
  refine ee_put dHeadReader_readHead_98 lpHeadReader_9 (ee_nI _) (fun w98 _ => ?_)
  refine ee_aload_n 0 dHeadReader_readHead_101 rfl ?_
  refine ee_getR dHeadReader_readHead_102 lfHeadReader_19 (fun v102 _ => ?_)
  refine ee_bind (fun _ ho105 => ?_)
  refine ee_callV (as := []) (st := []) dHeadReader_readHead_105 (t_fSettings_hasStyleAndStepForAll v102 w98) my_fSettings_hasStyleAndStepForAll.1 (Nat.le_of_ble_eq_true rfl) my_fSettings_hasStyleAndStepForAll.2 rfl cf_7.1 rfl (p_obj_eq.mp ho105) gw_638 gw_639 gw_640 ⟨Nat.le_of_ble_eq_true rfl, Nat.le_of_ble_eq_true rfl⟩ (Nat.le_of_ble_eq_true rfl) (fun rv105 w105 _ => ?_)
  refine ee_kI (fun v105 => ?_)
  refine ee_if_eq (tgt := 115) dHeadReader_readHead_108 (by decide) (fun h108 => ?_) (fun h108 => ?_)
  · refine ee_iload_n 1 dHeadReader_readHead_115 rfl ?_
    exact ee_iret rfl dHeadReader_readHead_116
  · refine ee_iconst (v := (-1 : Int32)) dHeadReader_readHead_111 (by decide) ?_
    refine ee_goto (tgt := 116) dHeadReader_readHead_112 (by decide) ?_
    exact ee_iret rfl dHeadReader_readHead_116
def fHeadReader_readHead_61 : Nat → Nat → Int32 → Int32 → Int32 → Int32 → PW → PX
  | 0, _, _, _, _, _, _ => none
  | n9 + 1, l0, l2, l3, l4, l5, w => if (20000 : Int32) ≤ l5 then (some (.inl (some (.int l3)), w)) else ((p_obj w l0 3).bind fun _ => p_call (fHeadReader_isCode l0 l4 l2 (144 : Int32) w) <| p_kI fun v78 w78 => if ¬ v78 = 0 then (fHeadReader_readHead_96 l0 l4 w78) else ((p_obj w78 l0 3).bind fun _ => p_call (fHeadReader_isCode l0 l4 l2 (217 : Int32) w78) <| p_kI fun v90 w90 => if v90 = 0 then ((p_obj w90 l0 3).bind fun _ => p_call (fHeadReader_segmentEnd l0 l4 l2 w90) <| p_kI fun v120 w120 => if v120 = (-1 : Int32) then (some (.inl (some (.int l4)), w120)) else ((p_obj w120 l0 3).bind fun _ => p_call (fHeadReader_keepSegment l0 l4 v120 (-1 : Int32) w120) <| p_kI fun v136 w136 => if ¬ v136 = 0 then (p_let (l5 + (1 : Int32)) fun (l5_144 : Int32) => (fHeadReader_readHead_61 n9) l0 l2 l4 v120 l5_144 w136) else (some (.inl (some (.int l4)), w136)))) else (fHeadReader_readHead_96 l0 l4 w90)))
set_option maxRecDepth 20000 in
set_option maxHeartbeats 2000000 in
theorem t_fHeadReader_readHead_61 {Γ : PG} : ∀ (n9 : Nat) (l0 : Nat) (l2 : Int32) (l3 : Int32) (l4 : Int32) (l5 : Int32) (w : PW), EE Γ MHeadReader_readHead 61 [(0, .ref l0), (2, .int l2), (3, .int l3), (4, .int l4), (5, .int l5)] [] w (fHeadReader_readHead_61 n9 l0 l2 l3 l4 l5 w) := by
  intro n9
  induction n9 with
  | zero => intro l0 l2 l3 l4 l5 w; exact ee_none
  | succ n9 ih =>
    intro l0 l2 l3 l4 l5 w
    unfold fHeadReader_readHead_61
    refine ee_iload 4 dHeadReader_readHead_61 rfl ?_
    refine ee_sipush (v := (20000 : Int32)) dHeadReader_readHead_63 (by decide) ?_
    refine ee_icmp_ge (tgt := 150) dHeadReader_readHead_66 (by decide) (fun h66 => ?_) (fun h66 => ?_)
    · refine ee_iload_n 2 dHeadReader_readHead_150 rfl ?_
      exact ee_iret rfl dHeadReader_readHead_151
    · refine ee_iload 3 dHeadReader_readHead_69 rfl ?_
      refine ee_istore_n (lv2 := [(3, .int l4), (0, .ref l0), (2, .int l2), (4, .int l4), (5, .int l5)]) dHeadReader_readHead_71 (Nat.le_of_ble_eq_true rfl) rfl ?_
      refine ee_aload_n 1 dHeadReader_readHead_72 rfl ?_
      refine ee_iload_n 0 dHeadReader_readHead_73 rfl ?_
      refine ee_iload_n 2 dHeadReader_readHead_74 rfl ?_
      refine ee_sipush (v := (144 : Int32)) dHeadReader_readHead_75 (by decide) ?_
      refine ee_bind (fun _ ho78 => ?_)
      refine ee_callV (as := [.int l4, .int l2, .int (144 : Int32)]) (st := []) dHeadReader_readHead_78 (t_fHeadReader_isCode l0 l4 l2 (144 : Int32) w) my_fHeadReader_isCode.1 (Nat.le_of_ble_eq_true rfl) my_fHeadReader_isCode.2 rfl cf_3.1 rfl (p_obj_eq.mp ho78) gw_589 gw_590 gw_591 ⟨Nat.le_of_ble_eq_true rfl, Nat.le_of_ble_eq_true rfl⟩ (Nat.le_of_ble_eq_true rfl) (fun rv78 w78 _ => ?_)
      refine ee_kI (fun v78 => ?_)
      refine ee_if_ne (tgt := 96) dHeadReader_readHead_81 (by decide) (fun h81 => ?_) (fun h81 => ?_)
      · refine ee_pick [1, 0] rfl ?_
        exact t_fHeadReader_readHead_96 _ _ w78
      · refine ee_aload_n 1 dHeadReader_readHead_84 rfl ?_
        refine ee_iload_n 0 dHeadReader_readHead_85 rfl ?_
        refine ee_iload_n 2 dHeadReader_readHead_86 rfl ?_
        refine ee_sipush (v := (217 : Int32)) dHeadReader_readHead_87 (by decide) ?_
        refine ee_bind (fun _ ho90 => ?_)
        refine ee_callV (as := [.int l4, .int l2, .int (217 : Int32)]) (st := []) dHeadReader_readHead_90 (t_fHeadReader_isCode l0 l4 l2 (217 : Int32) w78) my_fHeadReader_isCode.1 (Nat.le_of_ble_eq_true rfl) my_fHeadReader_isCode.2 rfl cf_3.1 rfl (p_obj_eq.mp ho90) gw_589 gw_590 gw_591 ⟨Nat.le_of_ble_eq_true rfl, Nat.le_of_ble_eq_true rfl⟩ (Nat.le_of_ble_eq_true rfl) (fun rv90 w90 _ => ?_)
        refine ee_kI (fun v90 => ?_)
        refine ee_if_eq (tgt := 117) dHeadReader_readHead_93 (by decide) (fun h93 => ?_) (fun h93 => ?_)
        · refine ee_aload_n 1 dHeadReader_readHead_117 rfl ?_
          refine ee_iload_n 0 dHeadReader_readHead_118 rfl ?_
          refine ee_iload_n 2 dHeadReader_readHead_119 rfl ?_
          refine ee_bind (fun _ ho120 => ?_)
          refine ee_callV (as := [.int l4, .int l2]) (st := []) dHeadReader_readHead_120 (t_fHeadReader_segmentEnd l0 l4 l2 w90) my_fHeadReader_segmentEnd.1 (Nat.le_of_ble_eq_true rfl) my_fHeadReader_segmentEnd.2 rfl cf_3.1 rfl (p_obj_eq.mp ho120) gw_594 gw_595 gw_596 ⟨Nat.le_of_ble_eq_true rfl, Nat.le_of_ble_eq_true rfl⟩ (Nat.le_of_ble_eq_true rfl) (fun rv120 w120 _ => ?_)
          refine ee_kI (fun v120 => ?_)
          refine ee_istore (lv2 := [(4, .int v120), (3, .int l4), (0, .ref l0), (2, .int l2), (5, .int l5)]) dHeadReader_readHead_123 (Nat.le_of_ble_eq_true rfl) rfl ?_
          refine ee_iload 0 dHeadReader_readHead_125 rfl ?_
          refine ee_iconst (v := (-1 : Int32)) dHeadReader_readHead_127 (by decide) ?_
          refine ee_icmp_eq (tgt := 142) dHeadReader_readHead_128 (by decide) (fun h128 => ?_) (fun h128 => ?_)
          · refine ee_iload_n 1 dHeadReader_readHead_142 rfl ?_
            exact ee_iret rfl dHeadReader_readHead_143
          · refine ee_aload_n 2 dHeadReader_readHead_131 rfl ?_
            refine ee_iload_n 1 dHeadReader_readHead_132 rfl ?_
            refine ee_iload 0 dHeadReader_readHead_133 rfl ?_
            refine ee_iconst (v := (-1 : Int32)) dHeadReader_readHead_135 (by decide) ?_
            refine ee_bind (fun _ ho136 => ?_)
            refine ee_callV (as := [.int l4, .int v120, .int (-1 : Int32)]) (st := []) dHeadReader_readHead_136 (t_fHeadReader_keepSegment l0 l4 v120 (-1 : Int32) w120) my_fHeadReader_keepSegment.1 (Nat.le_of_ble_eq_true rfl) my_fHeadReader_keepSegment.2 rfl cf_3.1 rfl (p_obj_eq.mp ho136) gw_642 gw_643 gw_644 ⟨Nat.le_of_ble_eq_true rfl, Nat.le_of_ble_eq_true rfl⟩ (Nat.le_of_ble_eq_true rfl) (fun rv136 w136 _ => ?_)
            refine ee_kI (fun v136 => ?_)
            refine ee_if_ne (tgt := 144) dHeadReader_readHead_139 (by decide) (fun h139 => ?_) (fun h139 => ?_)
            · refine ee_iinc 4 dHeadReader_readHead_144 rfl (e := (1 : Int32)) (by decide) (Nat.le_of_ble_eq_true rfl) (fun l5_144 _ => ?_)
              refine ee_lv (lv2 := [(5, .int l5_144), (4, .int v120), (3, .int l4), (0, .ref l0), (2, .int l2)]) rfl ?_
              refine ee_goto (tgt := 61) dHeadReader_readHead_147 (by decide) ?_
              refine ee_pick [3, 4, 2, 1, 0] rfl ?_
              exact ih _ _ _ _ _ w136
            · refine ee_iload_n 1 dHeadReader_readHead_142 rfl ?_
              exact ee_iret rfl dHeadReader_readHead_143
        · refine ee_pick [1, 0] rfl ?_
          exact t_fHeadReader_readHead_96 _ _ w90
def fHeadReader_readHead_38 (l0 : Nat) (l2 : Int32) (l3 : Int32) (s0 : Int32) (w : PW) : PX := if s0 = (-1 : Int32) then (some (.inl (some (.int l3)), w)) else ((p_obj w l0 3).bind fun _ => p_call (fHeadReader_keepSizes l0 l3 s0 w) <| p_kI fun v50 w50 => if ¬ v50 = 0 then (fHeadReader_readHead_61 FUEL l0 l2 l3 s0 (0 : Int32) w50) else (some (.inl (some (.int l3)), w50)))
set_option maxRecDepth 20000 in
set_option maxHeartbeats 2000000 in
theorem t_fHeadReader_readHead_38 {Γ : PG} : ∀ (l0 : Nat) (l2 : Int32) (l3 : Int32) (s0 : Int32) (w : PW), EE Γ MHeadReader_readHead 38 [(0, .ref l0), (2, .int l2), (3, .int l3)] [.int s0] w (fHeadReader_readHead_38 l0 l2 l3 s0 w) := by
  intro l0 l2 l3 s0 w
  unfold fHeadReader_readHead_38
  refine ee_istore (lv2 := [(4, .int s0), (0, .ref l0), (2, .int l2), (3, .int l3)]) dHeadReader_readHead_38 (Nat.le_of_ble_eq_true rfl) rfl ?_
  refine ee_iload 0 dHeadReader_readHead_40 rfl ?_
  refine ee_iconst (v := (-1 : Int32)) dHeadReader_readHead_42 (by decide) ?_
  refine ee_icmp_eq (tgt := 56) dHeadReader_readHead_43 (by decide) (fun h43 => ?_) (fun h43 => ?_)
  · refine ee_iload_n 3 dHeadReader_readHead_56 rfl ?_
    exact ee_iret rfl dHeadReader_readHead_57
  · refine ee_aload_n 1 dHeadReader_readHead_46 rfl ?_
    refine ee_iload_n 3 dHeadReader_readHead_47 rfl ?_
    refine ee_iload 0 dHeadReader_readHead_48 rfl ?_
    refine ee_bind (fun _ ho50 => ?_)
    refine ee_callV (as := [.int l3, .int s0]) (st := []) dHeadReader_readHead_50 (t_fHeadReader_keepSizes l0 l3 s0 w) my_fHeadReader_keepSizes.1 (Nat.le_of_ble_eq_true rfl) my_fHeadReader_keepSizes.2 rfl cf_3.1 rfl (p_obj_eq.mp ho50) gw_599 gw_600 gw_601 ⟨Nat.le_of_ble_eq_true rfl, Nat.le_of_ble_eq_true rfl⟩ (Nat.le_of_ble_eq_true rfl) (fun rv50 w50 _ => ?_)
    refine ee_kI (fun v50 => ?_)
    refine ee_if_ne (tgt := 58) dHeadReader_readHead_53 (by decide) (fun h53 => ?_) (fun h53 => ?_)
    · refine ee_iconst (v := (0 : Int32)) dHeadReader_readHead_58 (by decide) ?_
      refine ee_istore (lv2 := [(5, .int (0 : Int32)), (4, .int s0), (0, .ref l0), (2, .int l2), (3, .int l3)]) dHeadReader_readHead_59 (Nat.le_of_ble_eq_true rfl) rfl ?_
      refine ee_pick [2, 3, 4, 1, 0] rfl ?_
      exact t_fHeadReader_readHead_61 FUEL _ _ _ _ _ w50
    · refine ee_iload_n 3 dHeadReader_readHead_56 rfl ?_
      exact ee_iret rfl dHeadReader_readHead_57
def fHeadReader_readHead (l0 : Nat) (l1 : Int32) (l2 : Int32) (w : PW) : PX := (p_obj w l0 3).bind fun _ => p_call (fHeadReader_isCode l0 l1 l2 (79 : Int32) w) <| p_kI fun v5 w5 => if ¬ v5 = 0 then (p_let ((l1 + (2 : Int32))) fun (l3_16 : Int32) => (p_obj w5 l0 3).bind fun _ => p_call (fHeadReader_isCode l0 l3_16 l2 (81 : Int32) w5) <| p_kI fun v22 w22 => if v22 = 0 then (fHeadReader_readHead_38 l0 l2 l3_16 (-1 : Int32) w22) else ((p_obj w22 l0 3).bind fun _ => p_call (fHeadReader_segmentEnd l0 l3_16 l2 w22) <| p_kI fun v31 w31 => fHeadReader_readHead_38 l0 l2 l3_16 v31 w31)) else (some (.inl (some (.int l1)), w5))
set_option maxRecDepth 20000 in
set_option maxHeartbeats 2000000 in
theorem t_fHeadReader_readHead {Γ : PG} : ∀ (l0 : Nat) (l1 : Int32) (l2 : Int32) (w : PW), EE Γ MHeadReader_readHead 0 (lv_args 0 [.ref l0, .int l1, .int l2]) [] w (fHeadReader_readHead l0 l1 l2 w) := by
  intro l0 l1 l2 w
  unfold fHeadReader_readHead
  show EE Γ MHeadReader_readHead 0 [(0, .ref l0), (1, .int l1), (2, .int l2)] [] w _
  refine ee_aload_n 0 dHeadReader_readHead_0 rfl ?_
  refine ee_iload_n 1 dHeadReader_readHead_1 rfl ?_
  refine ee_iload_n 2 dHeadReader_readHead_2 rfl ?_
  refine ee_bipush (v := (79 : Int32)) dHeadReader_readHead_3 (by decide) ?_
  refine ee_bind (fun _ ho5 => ?_)
  refine ee_callV (as := [.int l1, .int l2, .int (79 : Int32)]) (st := []) dHeadReader_readHead_5 (t_fHeadReader_isCode l0 l1 l2 (79 : Int32) w) my_fHeadReader_isCode.1 (Nat.le_of_ble_eq_true rfl) my_fHeadReader_isCode.2 rfl cf_3.1 rfl (p_obj_eq.mp ho5) gw_589 gw_590 gw_591 ⟨Nat.le_of_ble_eq_true rfl, Nat.le_of_ble_eq_true rfl⟩ (Nat.le_of_ble_eq_true rfl) (fun rv5 w5 _ => ?_)
  refine ee_kI (fun v5 => ?_)
  refine ee_if_ne (tgt := 13) dHeadReader_readHead_8 (by decide) (fun h8 => ?_) (fun h8 => ?_)
  · refine ee_iload_n 1 dHeadReader_readHead_13 rfl ?_
    refine ee_iconst (v := (2 : Int32)) dHeadReader_readHead_14 (by decide) ?_
    refine ee_iadd dHeadReader_readHead_15 ?_
    refine ee_letI (fun l3_16 _ => ?_)
    refine ee_istore_n (lv2 := [(3, .int l3_16), (0, .ref l0), (1, .int l1), (2, .int l2)]) dHeadReader_readHead_16 (Nat.le_of_ble_eq_true rfl) rfl ?_
    refine ee_aload_n 1 dHeadReader_readHead_17 rfl ?_
    refine ee_iload_n 0 dHeadReader_readHead_18 rfl ?_
    refine ee_iload_n 3 dHeadReader_readHead_19 rfl ?_
    refine ee_bipush (v := (81 : Int32)) dHeadReader_readHead_20 (by decide) ?_
    refine ee_bind (fun _ ho22 => ?_)
    refine ee_callV (as := [.int l3_16, .int l2, .int (81 : Int32)]) (st := []) dHeadReader_readHead_22 (t_fHeadReader_isCode l0 l3_16 l2 (81 : Int32) w5) my_fHeadReader_isCode.1 (Nat.le_of_ble_eq_true rfl) my_fHeadReader_isCode.2 rfl cf_3.1 rfl (p_obj_eq.mp ho22) gw_589 gw_590 gw_591 ⟨Nat.le_of_ble_eq_true rfl, Nat.le_of_ble_eq_true rfl⟩ (Nat.le_of_ble_eq_true rfl) (fun rv22 w22 _ => ?_)
    refine ee_kI (fun v22 => ?_)
    refine ee_if_eq (tgt := 37) dHeadReader_readHead_25 (by decide) (fun h25 => ?_) (fun h25 => ?_)
    · refine ee_iconst (v := (-1 : Int32)) dHeadReader_readHead_37 (by decide) ?_
      refine ee_pick [1, 3, 0] rfl ?_
      exact t_fHeadReader_readHead_38 _ _ _ _ w22
    · refine ee_aload_n 1 dHeadReader_readHead_28 rfl ?_
      refine ee_iload_n 0 dHeadReader_readHead_29 rfl ?_
      refine ee_iload_n 3 dHeadReader_readHead_30 rfl ?_
      refine ee_bind (fun _ ho31 => ?_)
      refine ee_callV (as := [.int l3_16, .int l2]) (st := []) dHeadReader_readHead_31 (t_fHeadReader_segmentEnd l0 l3_16 l2 w22) my_fHeadReader_segmentEnd.1 (Nat.le_of_ble_eq_true rfl) my_fHeadReader_segmentEnd.2 rfl cf_3.1 rfl (p_obj_eq.mp ho31) gw_594 gw_595 gw_596 ⟨Nat.le_of_ble_eq_true rfl, Nat.le_of_ble_eq_true rfl⟩ (Nat.le_of_ble_eq_true rfl) (fun rv31 w31 _ => ?_)
      refine ee_kI (fun v31 => ?_)
      refine ee_goto (tgt := 38) dHeadReader_readHead_34 (by decide) ?_
      refine ee_pick [1, 3, 0] rfl ?_
      exact t_fHeadReader_readHead_38 _ _ _ _ w31
  · refine ee_iload_n 1 dHeadReader_readHead_11 rfl ?_
    exact ee_iret rfl dHeadReader_readHead_12
def fHeadReader_isSegmentCode (l0 : Int32) (w : PW) : PX := if l0 = (82 : Int32) then (p_retZ (1 : Int32) w) else (if l0 = (83 : Int32) then (p_retZ (1 : Int32) w) else (if l0 = (92 : Int32) then (p_retZ (1 : Int32) w) else (if ¬ l0 = (93 : Int32) then (p_retZ (0 : Int32) w) else (p_retZ (1 : Int32) w))))
set_option maxRecDepth 20000 in
set_option maxHeartbeats 2000000 in
theorem t_fHeadReader_isSegmentCode {Γ : PG} : ∀ (l0 : Int32) (w : PW), EE Γ MHeadReader_isSegmentCode 0 (lv_args 0 [.int l0]) [] w (fHeadReader_isSegmentCode l0 w) := by
  intro l0 w
  unfold fHeadReader_isSegmentCode
  show EE Γ MHeadReader_isSegmentCode 0 [(0, .int l0)] [] w _
  refine ee_iload_n 0 dHeadReader_isSegmentCode_0 rfl ?_
  refine ee_bipush (v := (82 : Int32)) dHeadReader_isSegmentCode_1 (by decide) ?_
  refine ee_icmp_eq (tgt := 24) dHeadReader_isSegmentCode_3 (by decide) (fun h3 => ?_) (fun h3 => ?_)
  · refine ee_iconst (v := (1 : Int32)) dHeadReader_isSegmentCode_24 (by decide) ?_
    refine ee_goto (tgt := 29) dHeadReader_isSegmentCode_25 (by decide) ?_
    exact ee_zret rfl dHeadReader_isSegmentCode_29
  · refine ee_iload_n 0 dHeadReader_isSegmentCode_6 rfl ?_
    refine ee_bipush (v := (83 : Int32)) dHeadReader_isSegmentCode_7 (by decide) ?_
    refine ee_icmp_eq (tgt := 24) dHeadReader_isSegmentCode_9 (by decide) (fun h9 => ?_) (fun h9 => ?_)
    · refine ee_iconst (v := (1 : Int32)) dHeadReader_isSegmentCode_24 (by decide) ?_
      refine ee_goto (tgt := 29) dHeadReader_isSegmentCode_25 (by decide) ?_
      exact ee_zret rfl dHeadReader_isSegmentCode_29
    · refine ee_iload_n 0 dHeadReader_isSegmentCode_12 rfl ?_
      refine ee_bipush (v := (92 : Int32)) dHeadReader_isSegmentCode_13 (by decide) ?_
      refine ee_icmp_eq (tgt := 24) dHeadReader_isSegmentCode_15 (by decide) (fun h15 => ?_) (fun h15 => ?_)
      · refine ee_iconst (v := (1 : Int32)) dHeadReader_isSegmentCode_24 (by decide) ?_
        refine ee_goto (tgt := 29) dHeadReader_isSegmentCode_25 (by decide) ?_
        exact ee_zret rfl dHeadReader_isSegmentCode_29
      · refine ee_iload_n 0 dHeadReader_isSegmentCode_18 rfl ?_
        refine ee_bipush (v := (93 : Int32)) dHeadReader_isSegmentCode_19 (by decide) ?_
        refine ee_icmp_ne (tgt := 28) dHeadReader_isSegmentCode_21 (by decide) (fun h21 => ?_) (fun h21 => ?_)
        · refine ee_iconst (v := (0 : Int32)) dHeadReader_isSegmentCode_28 (by decide) ?_
          exact ee_zret rfl dHeadReader_isSegmentCode_29
        · refine ee_iconst (v := (1 : Int32)) dHeadReader_isSegmentCode_24 (by decide) ?_
          refine ee_goto (tgt := 29) dHeadReader_isSegmentCode_25 (by decide) ?_
          exact ee_zret rfl dHeadReader_isSegmentCode_29
def fPartReader_init (l0 : Nat) (l1 : Nat) (l2 : Nat) (l3 : Nat) (w : PW) : PX := p_newA w 0 4 (300 : Int32) fun v8 w8 => (p_put w8 l0 6 3 (.ref v8)).bind fun w10 => p_newA w10 0 4 (300 : Int32) fun v17 w17 => (p_put w17 l0 6 4 (.ref v17)).bind fun w19 => p_newA w19 0 4 (300 : Int32) fun v26 w26 => (p_put w26 l0 6 5 (.ref v26)).bind fun w28 => p_newA w28 0 4 (300 : Int32) fun v35 w35 => (p_put w35 l0 6 6 (.ref v35)).bind fun w37 => p_newA w37 0 4 (300 : Int32) fun v44 w44 => (p_put w44 l0 6 7 (.ref v44)).bind fun w46 => p_newA w46 2 1 (300 : Int32) fun v53 w53 => (p_put w53 l0 6 8 (.ref v53)).bind fun w55 => p_newA w55 0 4 (24 : Int32) fun v61 w61 => (p_put w61 l0 6 9 (.ref v61)).bind fun w63 => p_newA w63 0 4 (200 : Int32) fun v70 w70 => (p_put w70 l0 6 10 (.ref v70)).bind fun w72 => (p_put w72 l0 6 11 (.int (0 : Int32))).bind fun w77 => (p_put w77 l0 6 12 (.int (0 : Int32))).bind fun w82 => (p_put w82 l0 6 0 (.ref l1)).bind fun w87 => (p_put w87 l0 6 1 (.ref l2)).bind fun w92 => (p_put w92 l0 6 2 (.ref l3)).bind fun w97 => some (.inl none, w97)
set_option maxRecDepth 20000 in
set_option maxHeartbeats 2000000 in
theorem t_fPartReader_init {Γ : PG} : ∀ (l0 : Nat) (l1 : Nat) (l2 : Nat) (l3 : Nat) (w : PW), EE Γ MPartReader_init 0 (lv_args 0 [.ref l0, .ref l1, .ref l2, .ref l3]) [] w (fPartReader_init l0 l1 l2 l3 w) := by
  intro l0 l1 l2 l3 w
  unfold fPartReader_init
  show EE Γ MPartReader_init 0 [(0, .ref l0), (1, .ref l1), (2, .ref l2), (3, .ref l3)] [] w _
  refine ee_aload_n 0 dPartReader_init_0 rfl ?_
  refine ee_objInit dPartReader_init_1 gw_252 gw_obji gw_objc ⟨Nat.le_of_ble_eq_true rfl, Nat.le_of_ble_eq_true rfl⟩ ?_
  refine ee_aload_n 0 dPartReader_init_4 rfl ?_
  refine ee_sipush (v := (300 : Int32)) dPartReader_init_5 (by decide) ?_
  refine ee_newI dPartReader_init_8 (fun v8 w8 _ _ _ => ?_)
  refine ee_put dPartReader_init_10 lpiPartReader_9 (ee_nRA _ _) (fun w10 _ => ?_)
  refine ee_aload_n 0 dPartReader_init_13 rfl ?_
  refine ee_sipush (v := (300 : Int32)) dPartReader_init_14 (by decide) ?_
  refine ee_newI dPartReader_init_17 (fun v17 w17 _ _ _ => ?_)
  refine ee_put dPartReader_init_19 lpiPartReader_15 (ee_nRA _ _) (fun w19 _ => ?_)
  refine ee_aload_n 0 dPartReader_init_22 rfl ?_
  refine ee_sipush (v := (300 : Int32)) dPartReader_init_23 (by decide) ?_
  refine ee_newI dPartReader_init_26 (fun v26 w26 _ _ _ => ?_)
  refine ee_put dPartReader_init_28 lpiPartReader_18 (ee_nRA _ _) (fun w28 _ => ?_)
  refine ee_aload_n 0 dPartReader_init_31 rfl ?_
  refine ee_sipush (v := (300 : Int32)) dPartReader_init_32 (by decide) ?_
  refine ee_newI dPartReader_init_35 (fun v35 w35 _ _ _ => ?_)
  refine ee_put dPartReader_init_37 lpiPartReader_21 (ee_nRA _ _) (fun w37 _ => ?_)
  refine ee_aload_n 0 dPartReader_init_40 rfl ?_
  refine ee_sipush (v := (300 : Int32)) dPartReader_init_41 (by decide) ?_
  refine ee_newI dPartReader_init_44 (fun v44 w44 _ _ _ => ?_)
  refine ee_put dPartReader_init_46 lpiPartReader_24 (ee_nRA _ _) (fun w46 _ => ?_)
  refine ee_aload_n 0 dPartReader_init_49 rfl ?_
  refine ee_sipush (v := (300 : Int32)) dPartReader_init_50 (by decide) ?_
  refine ee_newZ dPartReader_init_53 (fun v53 w53 _ _ _ => ?_)
  refine ee_put dPartReader_init_55 lpiPartReader_27 (ee_nRA _ _) (fun w55 _ => ?_)
  refine ee_aload_n 0 dPartReader_init_58 rfl ?_
  refine ee_bipush (v := (24 : Int32)) dPartReader_init_59 (by decide) ?_
  refine ee_newI dPartReader_init_61 (fun v61 w61 _ _ _ => ?_)
  refine ee_put dPartReader_init_63 lpiPartReader_31 (ee_nRA _ _) (fun w63 _ => ?_)
  refine ee_aload_n 0 dPartReader_init_66 rfl ?_
  refine ee_sipush (v := (200 : Int32)) dPartReader_init_67 (by decide) ?_
  refine ee_newI dPartReader_init_70 (fun v70 w70 _ _ _ => ?_)
  refine ee_put dPartReader_init_72 lpiPartReader_34 (ee_nRA _ _) (fun w72 _ => ?_)
  refine ee_aload_n 0 dPartReader_init_75 rfl ?_
  refine ee_iconst (v := (0 : Int32)) dPartReader_init_76 (by decide) ?_
  refine ee_put dPartReader_init_77 lpiPartReader_37 (ee_nI _) (fun w77 _ => ?_)
  refine ee_aload_n 0 dPartReader_init_80 rfl ?_
  refine ee_iconst (v := (0 : Int32)) dPartReader_init_81 (by decide) ?_
  refine ee_put dPartReader_init_82 lpiPartReader_41 (ee_nI _) (fun w82 _ => ?_)
  refine ee_aload_n 0 dPartReader_init_85 rfl ?_
  refine ee_aload_n 1 dPartReader_init_86 rfl ?_
  refine ee_put dPartReader_init_87 lpiPartReader_44 (ee_nR _ _) (fun w87 _ => ?_)
  refine ee_aload_n 0 dPartReader_init_90 rfl ?_
  refine ee_aload_n 2 dPartReader_init_91 rfl ?_
  refine ee_put dPartReader_init_92 lpiPartReader_48 (ee_nR _ _) (fun w92 _ => ?_)
  refine ee_aload_n 0 dPartReader_init_95 rfl ?_
  refine ee_aload_n 3 dPartReader_init_96 rfl ?_
  refine ee_put dPartReader_init_97 lpiPartReader_52 (ee_nR _ _) (fun w97 _ => ?_)
  exact ee_vret rfl dPartReader_init_100
def fPartReader_forget_7 : Nat → Nat → Int32 → PW → PX
  | 0, _, _, _ => none
  | n9 + 1, l0, l1, w => if (24 : Int32) ≤ l1 then (some (.inl none, w)) else ((p_getR w l0 6 9).bind fun v14 => (p_ast w v14 0 l1 (0 : Int32)).bind fun w19 => p_let (l1 + (1 : Int32)) fun (l1_20 : Int32) => (fPartReader_forget_7 n9) l0 l1_20 w19)
set_option maxRecDepth 20000 in
set_option maxHeartbeats 2000000 in
theorem t_fPartReader_forget_7 {Γ : PG} : ∀ (n9 : Nat) (l0 : Nat) (l1 : Int32) (w : PW), EE Γ MPartReader_forget 7 [(0, .ref l0), (1, .int l1)] [] w (fPartReader_forget_7 n9 l0 l1 w) := by
  intro n9
  induction n9 with
  | zero => intro l0 l1 w; exact ee_none
  | succ n9 ih =>
    intro l0 l1 w
    unfold fPartReader_forget_7
    refine ee_iload_n 1 dPartReader_forget_7 rfl ?_
    refine ee_bipush (v := (24 : Int32)) dPartReader_forget_8 (by decide) ?_
    refine ee_icmp_ge (tgt := 26) dPartReader_forget_10 (by decide) (fun h10 => ?_) (fun h10 => ?_)
    · exact ee_vret rfl dPartReader_forget_26
    · refine ee_aload_n 0 dPartReader_forget_13 rfl ?_
      refine ee_getR dPartReader_forget_14 lfPartReader_31 (fun v14 _ => ?_)
      refine ee_iload_n 1 dPartReader_forget_17 rfl ?_
      refine ee_iconst (v := (0 : Int32)) dPartReader_forget_18 (by decide) ?_
      refine ee_iast (t := 0) dPartReader_forget_19 rfl (fun w19 _ => ?_)
      refine ee_iinc 1 dPartReader_forget_20 rfl (e := (1 : Int32)) (by decide) (Nat.le_of_ble_eq_true rfl) (fun l1_20 _ => ?_)
      refine ee_lv (lv2 := [(1, .int l1_20), (0, .ref l0)]) rfl ?_
      refine ee_goto (tgt := 7) dPartReader_forget_23 (by decide) ?_
      refine ee_pick [1, 0] rfl ?_
      exact ih _ _ w19
def fPartReader_forget (l0 : Nat) (w : PW) : PX := (p_put w l0 6 12 (.int (0 : Int32))).bind fun w2 => fPartReader_forget_7 FUEL l0 (0 : Int32) w2
set_option maxRecDepth 20000 in
set_option maxHeartbeats 2000000 in
theorem t_fPartReader_forget {Γ : PG} : ∀ (l0 : Nat) (w : PW), EE Γ MPartReader_forget 0 (lv_args 0 [.ref l0]) [] w (fPartReader_forget l0 w) := by
  intro l0 w
  unfold fPartReader_forget
  show EE Γ MPartReader_forget 0 [(0, .ref l0)] [] w _
  refine ee_aload_n 0 dPartReader_forget_0 rfl ?_
  refine ee_iconst (v := (0 : Int32)) dPartReader_forget_1 (by decide) ?_
  refine ee_put dPartReader_forget_2 lpPartReader_41 (ee_nI _) (fun w2 _ => ?_)
  refine ee_iconst (v := (0 : Int32)) dPartReader_forget_5 (by decide) ?_
  refine ee_istore_n (lv2 := [(1, .int (0 : Int32)), (0, .ref l0)]) dPartReader_forget_6 (Nat.le_of_ble_eq_true rfl) rfl ?_
  refine ee_pick [1, 0] rfl ?_
  exact t_fPartReader_forget_7 FUEL _ _ w2
def fPartReader_numberOf (l0 : Nat) (l1 : Int32) (l2 : Int32) (w : PW) : PX := if l2 = (0 : Int32) then ((p_getR w l0 6 3).bind fun v41 => (p_ald w v41 0 l1).bind fun v45 => some (.inl (some (.int v45)), w)) else if l2 = (1 : Int32) then ((p_getR w l0 6 4).bind fun v48 => (p_ald w v48 0 l1).bind fun v52 => some (.inl (some (.int v52)), w)) else if l2 = (2 : Int32) then ((p_getR w l0 6 6).bind fun v55 => (p_ald w v55 0 l1).bind fun v59 => some (.inl (some (.int v59)), w)) else if l2 = (3 : Int32) then ((p_getR w l0 6 7).bind fun v62 => (p_ald w v62 0 l1).bind fun v66 => some (.inl (some (.int v66)), w)) else if l2 = (4 : Int32) then ((p_getR w l0 6 3).bind fun v69 => (p_ald w v69 0 l1).bind fun v73 => if ¬ v73 = (-1 : Int32) then (some (.inl (some (.int (0 : Int32))), w)) else (some (.inl (some (.int (1 : Int32))), w))) else if l2 = (5 : Int32) then ((p_getR w l0 6 8).bind fun v85 => (p_ald w v85 2 l1).bind fun v89 => if v89 = 0 then (some (.inl (some (.int (0 : Int32))), w)) else (some (.inl (some (.int (1 : Int32))), w))) else (some (.inl (some (.int (-1 : Int32))), w))
set_option maxRecDepth 20000 in
set_option maxHeartbeats 2000000 in
theorem t_fPartReader_numberOf {Γ : PG} : ∀ (l0 : Nat) (l1 : Int32) (l2 : Int32) (w : PW), EE Γ MPartReader_numberOf 0 (lv_args 0 [.ref l0, .int l1, .int l2]) [] w (fPartReader_numberOf l0 l1 l2 w) := by
  intro l0 l1 l2 w
  unfold fPartReader_numberOf
  show EE Γ MPartReader_numberOf 0 [(0, .ref l0), (1, .int l1), (2, .int l2)] [] w _
  refine ee_iload_n 2 dPartReader_numberOf_0 rfl ?_
  refine ee_ite (fun h1_0 => ?_) (fun h1_0 => ?_)
  · refine ee_tabIn (tgt := 40) dPartReader_numberOf_1 (by rw [h1_0]; decide) (by rw [h1_0]; decide) (by rw [h1_0]; rfl) (by decide) ?_
    refine ee_aload_n 0 dPartReader_numberOf_40 rfl ?_
    refine ee_getR dPartReader_numberOf_41 lfPartReader_9 (fun v41 _ => ?_)
    refine ee_iload_n 1 dPartReader_numberOf_44 rfl ?_
    refine ee_iald (t := 0) dPartReader_numberOf_45 rfl (fun v45 _ => ?_)
    exact ee_iret rfl dPartReader_numberOf_46
  · skip
    refine ee_ite (fun h1_1 => ?_) (fun h1_1 => ?_)
    · refine ee_tabIn (tgt := 47) dPartReader_numberOf_1 (by rw [h1_1]; decide) (by rw [h1_1]; decide) (by rw [h1_1]; rfl) (by decide) ?_
      refine ee_aload_n 0 dPartReader_numberOf_47 rfl ?_
      refine ee_getR dPartReader_numberOf_48 lfPartReader_15 (fun v48 _ => ?_)
      refine ee_iload_n 1 dPartReader_numberOf_51 rfl ?_
      refine ee_iald (t := 0) dPartReader_numberOf_52 rfl (fun v52 _ => ?_)
      exact ee_iret rfl dPartReader_numberOf_53
    · skip
      refine ee_ite (fun h1_2 => ?_) (fun h1_2 => ?_)
      · refine ee_tabIn (tgt := 54) dPartReader_numberOf_1 (by rw [h1_2]; decide) (by rw [h1_2]; decide) (by rw [h1_2]; rfl) (by decide) ?_
        refine ee_aload_n 0 dPartReader_numberOf_54 rfl ?_
        refine ee_getR dPartReader_numberOf_55 lfPartReader_21 (fun v55 _ => ?_)
        refine ee_iload_n 1 dPartReader_numberOf_58 rfl ?_
        refine ee_iald (t := 0) dPartReader_numberOf_59 rfl (fun v59 _ => ?_)
        exact ee_iret rfl dPartReader_numberOf_60
      · skip
        refine ee_ite (fun h1_3 => ?_) (fun h1_3 => ?_)
        · refine ee_tabIn (tgt := 61) dPartReader_numberOf_1 (by rw [h1_3]; decide) (by rw [h1_3]; decide) (by rw [h1_3]; rfl) (by decide) ?_
          refine ee_aload_n 0 dPartReader_numberOf_61 rfl ?_
          refine ee_getR dPartReader_numberOf_62 lfPartReader_24 (fun v62 _ => ?_)
          refine ee_iload_n 1 dPartReader_numberOf_65 rfl ?_
          refine ee_iald (t := 0) dPartReader_numberOf_66 rfl (fun v66 _ => ?_)
          exact ee_iret rfl dPartReader_numberOf_67
        · skip
          refine ee_ite (fun h1_4 => ?_) (fun h1_4 => ?_)
          · refine ee_tabIn (tgt := 68) dPartReader_numberOf_1 (by rw [h1_4]; decide) (by rw [h1_4]; decide) (by rw [h1_4]; rfl) (by decide) ?_
            refine ee_aload_n 0 dPartReader_numberOf_68 rfl ?_
            refine ee_getR dPartReader_numberOf_69 lfPartReader_9 (fun v69 _ => ?_)
            refine ee_iload_n 1 dPartReader_numberOf_72 rfl ?_
            refine ee_iald (t := 0) dPartReader_numberOf_73 rfl (fun v73 _ => ?_)
            refine ee_iconst (v := (-1 : Int32)) dPartReader_numberOf_74 (by decide) ?_
            refine ee_icmp_ne (tgt := 82) dPartReader_numberOf_75 (by decide) (fun h75 => ?_) (fun h75 => ?_)
            · refine ee_iconst (v := (0 : Int32)) dPartReader_numberOf_82 (by decide) ?_
              exact ee_iret rfl dPartReader_numberOf_83
            · refine ee_iconst (v := (1 : Int32)) dPartReader_numberOf_78 (by decide) ?_
              refine ee_goto (tgt := 83) dPartReader_numberOf_79 (by decide) ?_
              exact ee_iret rfl dPartReader_numberOf_83
          · skip
            refine ee_ite (fun h1_5 => ?_) (fun h1_5 => ?_)
            · refine ee_tabIn (tgt := 84) dPartReader_numberOf_1 (by rw [h1_5]; decide) (by rw [h1_5]; decide) (by rw [h1_5]; rfl) (by decide) ?_
              refine ee_aload_n 0 dPartReader_numberOf_84 rfl ?_
              refine ee_getR dPartReader_numberOf_85 lfPartReader_27 (fun v85 _ => ?_)
              refine ee_iload_n 1 dPartReader_numberOf_88 rfl ?_
              refine ee_zald (t := 2) dPartReader_numberOf_89 rfl (fun v89 _ => ?_)
              refine ee_if_eq (tgt := 97) dPartReader_numberOf_90 (by decide) (fun h90 => ?_) (fun h90 => ?_)
              · refine ee_iconst (v := (0 : Int32)) dPartReader_numberOf_97 (by decide) ?_
                exact ee_iret rfl dPartReader_numberOf_98
              · refine ee_iconst (v := (1 : Int32)) dPartReader_numberOf_93 (by decide) ?_
                refine ee_goto (tgt := 98) dPartReader_numberOf_94 (by decide) ?_
                exact ee_iret rfl dPartReader_numberOf_98
            · skip
              refine ee_tabOut (tgt := 99) dPartReader_numberOf_1 (by have e0 : ¬ Int32.toInt l2 = (0 : Int) := fun h => h1_0 (Int32.toInt_inj.mp (h.trans (show (0 : Int) = (0 : Int32).toInt by decide))); have e1 : ¬ Int32.toInt l2 = (1 : Int) := fun h => h1_1 (Int32.toInt_inj.mp (h.trans (show (1 : Int) = (1 : Int32).toInt by decide))); have e2 : ¬ Int32.toInt l2 = (2 : Int) := fun h => h1_2 (Int32.toInt_inj.mp (h.trans (show (2 : Int) = (2 : Int32).toInt by decide))); have e3 : ¬ Int32.toInt l2 = (3 : Int) := fun h => h1_3 (Int32.toInt_inj.mp (h.trans (show (3 : Int) = (3 : Int32).toInt by decide))); have e4 : ¬ Int32.toInt l2 = (4 : Int) := fun h => h1_4 (Int32.toInt_inj.mp (h.trans (show (4 : Int) = (4 : Int32).toInt by decide))); have e5 : ¬ Int32.toInt l2 = (5 : Int) := fun h => h1_5 (Int32.toInt_inj.mp (h.trans (show (5 : Int) = (5 : Int32).toInt by decide))); omega) (by decide) ?_
              refine ee_iconst (v := (-1 : Int32)) dPartReader_numberOf_99 (by decide) ?_
              exact ee_iret rfl dPartReader_numberOf_100
def fPartReader_spoiltOnes_4 : Nat → Nat → Int32 → Int32 → PW → PX
  | 0, _, _, _, _ => none
  | n9 + 1, l0, l1, l2, w => (p_getI w l0 6 12).bind fun v6 => if v6 ≤ l2 then (some (.inl (some (.int l1)), w)) else ((p_obj w l0 6).bind fun _ => p_call (fPartReader_numberOf l0 l2 (4 : Int32) w) <| p_kI fun v16 w16 => p_let ((l1 + v16)) fun (l1_20 : Int32) => p_let (l2 + (1 : Int32)) fun (l2_21 : Int32) => (fPartReader_spoiltOnes_4 n9) l0 l1_20 l2_21 w16)
set_option maxRecDepth 20000 in
set_option maxHeartbeats 2000000 in
theorem t_fPartReader_spoiltOnes_4 {Γ : PG} : ∀ (n9 : Nat) (l0 : Nat) (l1 : Int32) (l2 : Int32) (w : PW), EE Γ MPartReader_spoiltOnes 4 [(0, .ref l0), (1, .int l1), (2, .int l2)] [] w (fPartReader_spoiltOnes_4 n9 l0 l1 l2 w) := by
  intro n9
  induction n9 with
  | zero => intro l0 l1 l2 w; exact ee_none
  | succ n9 ih =>
    intro l0 l1 l2 w
    unfold fPartReader_spoiltOnes_4
    refine ee_iload_n 2 dPartReader_spoiltOnes_4 rfl ?_
    refine ee_aload_n 0 dPartReader_spoiltOnes_5 rfl ?_
    refine ee_getI dPartReader_spoiltOnes_6 lfPartReader_41 (fun v6 _ => ?_)
    refine ee_icmp_ge (tgt := 27) dPartReader_spoiltOnes_9 (by decide) (fun h9 => ?_) (fun h9 => ?_)
    · refine ee_iload_n 1 dPartReader_spoiltOnes_27 rfl ?_
      exact ee_iret rfl dPartReader_spoiltOnes_28
    · refine ee_iload_n 1 dPartReader_spoiltOnes_12 rfl ?_
      refine ee_aload_n 0 dPartReader_spoiltOnes_13 rfl ?_
      refine ee_iload_n 2 dPartReader_spoiltOnes_14 rfl ?_
      refine ee_iconst (v := (4 : Int32)) dPartReader_spoiltOnes_15 (by decide) ?_
      refine ee_bind (fun _ ho16 => ?_)
      refine ee_callV (as := [.int l2, .int (4 : Int32)]) (st := [.int l1]) dPartReader_spoiltOnes_16 (t_fPartReader_numberOf l0 l2 (4 : Int32) w) my_fPartReader_numberOf.1 (Nat.le_of_ble_eq_true rfl) my_fPartReader_numberOf.2 rfl cf_6.1 rfl (p_obj_eq.mp ho16) gw_720 gw_721 gw_722 ⟨Nat.le_of_ble_eq_true rfl, Nat.le_of_ble_eq_true rfl⟩ (Nat.le_of_ble_eq_true rfl) (fun rv16 w16 _ => ?_)
      refine ee_kI (fun v16 => ?_)
      refine ee_iadd dPartReader_spoiltOnes_19 ?_
      refine ee_letI (fun l1_20 _ => ?_)
      refine ee_istore_n (lv2 := [(1, .int l1_20), (0, .ref l0), (2, .int l2)]) dPartReader_spoiltOnes_20 (Nat.le_of_ble_eq_true rfl) rfl ?_
      refine ee_iinc 2 dPartReader_spoiltOnes_21 rfl (e := (1 : Int32)) (by decide) (Nat.le_of_ble_eq_true rfl) (fun l2_21 _ => ?_)
      refine ee_lv (lv2 := [(2, .int l2_21), (1, .int l1_20), (0, .ref l0)]) rfl ?_
      refine ee_goto (tgt := 4) dPartReader_spoiltOnes_24 (by decide) ?_
      refine ee_pick [2, 1, 0] rfl ?_
      exact ih _ _ _ w16
def fPartReader_spoiltOnes (l0 : Nat) (w : PW) : PX := fPartReader_spoiltOnes_4 FUEL l0 (0 : Int32) (0 : Int32) w
set_option maxRecDepth 20000 in
set_option maxHeartbeats 2000000 in
theorem t_fPartReader_spoiltOnes {Γ : PG} : ∀ (l0 : Nat) (w : PW), EE Γ MPartReader_spoiltOnes 0 (lv_args 0 [.ref l0]) [] w (fPartReader_spoiltOnes l0 w) := by
  intro l0 w
  unfold fPartReader_spoiltOnes
  show EE Γ MPartReader_spoiltOnes 0 [(0, .ref l0)] [] w _
  refine ee_iconst (v := (0 : Int32)) dPartReader_spoiltOnes_0 (by decide) ?_
  refine ee_istore_n (lv2 := [(1, .int (0 : Int32)), (0, .ref l0)]) dPartReader_spoiltOnes_1 (Nat.le_of_ble_eq_true rfl) rfl ?_
  refine ee_iconst (v := (0 : Int32)) dPartReader_spoiltOnes_2 (by decide) ?_
  refine ee_istore_n (lv2 := [(2, .int (0 : Int32)), (1, .int (0 : Int32)), (0, .ref l0)]) dPartReader_spoiltOnes_3 (Nat.le_of_ble_eq_true rfl) rfl ?_
  refine ee_pick [2, 1, 0] rfl ?_
  exact t_fPartReader_spoiltOnes_4 FUEL _ _ _ w
def fPartReader_wholePackets_4 : Nat → Nat → Int32 → Int32 → PW → PX
  | 0, _, _, _, _ => none
  | n9 + 1, l0, l1, l2, w => (p_getI w l0 6 12).bind fun v6 => if v6 ≤ l2 then (some (.inl (some (.int l1)), w)) else ((p_getR w l0 6 7).bind fun v14 => (p_ald w v14 0 l2).bind fun v18 => p_let ((l1 + v18)) fun (l1_20 : Int32) => p_let (l2 + (1 : Int32)) fun (l2_21 : Int32) => (fPartReader_wholePackets_4 n9) l0 l1_20 l2_21 w)
set_option maxRecDepth 20000 in
set_option maxHeartbeats 2000000 in
theorem t_fPartReader_wholePackets_4 {Γ : PG} : ∀ (n9 : Nat) (l0 : Nat) (l1 : Int32) (l2 : Int32) (w : PW), EE Γ MPartReader_wholePackets 4 [(0, .ref l0), (1, .int l1), (2, .int l2)] [] w (fPartReader_wholePackets_4 n9 l0 l1 l2 w) := by
  intro n9
  induction n9 with
  | zero => intro l0 l1 l2 w; exact ee_none
  | succ n9 ih =>
    intro l0 l1 l2 w
    unfold fPartReader_wholePackets_4
    refine ee_iload_n 2 dPartReader_wholePackets_4 rfl ?_
    refine ee_aload_n 0 dPartReader_wholePackets_5 rfl ?_
    refine ee_getI dPartReader_wholePackets_6 lfPartReader_41 (fun v6 _ => ?_)
    refine ee_icmp_ge (tgt := 27) dPartReader_wholePackets_9 (by decide) (fun h9 => ?_) (fun h9 => ?_)
    · refine ee_iload_n 1 dPartReader_wholePackets_27 rfl ?_
      exact ee_iret rfl dPartReader_wholePackets_28
    · refine ee_iload_n 1 dPartReader_wholePackets_12 rfl ?_
      refine ee_aload_n 0 dPartReader_wholePackets_13 rfl ?_
      refine ee_getR dPartReader_wholePackets_14 lfPartReader_24 (fun v14 _ => ?_)
      refine ee_iload_n 2 dPartReader_wholePackets_17 rfl ?_
      refine ee_iald (t := 0) dPartReader_wholePackets_18 rfl (fun v18 _ => ?_)
      refine ee_iadd dPartReader_wholePackets_19 ?_
      refine ee_letI (fun l1_20 _ => ?_)
      refine ee_istore_n (lv2 := [(1, .int l1_20), (0, .ref l0), (2, .int l2)]) dPartReader_wholePackets_20 (Nat.le_of_ble_eq_true rfl) rfl ?_
      refine ee_iinc 2 dPartReader_wholePackets_21 rfl (e := (1 : Int32)) (by decide) (Nat.le_of_ble_eq_true rfl) (fun l2_21 _ => ?_)
      refine ee_lv (lv2 := [(2, .int l2_21), (1, .int l1_20), (0, .ref l0)]) rfl ?_
      refine ee_goto (tgt := 4) dPartReader_wholePackets_24 (by decide) ?_
      refine ee_pick [2, 1, 0] rfl ?_
      exact ih _ _ _ w
def fPartReader_wholePackets (l0 : Nat) (w : PW) : PX := fPartReader_wholePackets_4 FUEL l0 (0 : Int32) (0 : Int32) w
set_option maxRecDepth 20000 in
set_option maxHeartbeats 2000000 in
theorem t_fPartReader_wholePackets {Γ : PG} : ∀ (l0 : Nat) (w : PW), EE Γ MPartReader_wholePackets 0 (lv_args 0 [.ref l0]) [] w (fPartReader_wholePackets l0 w) := by
  intro l0 w
  unfold fPartReader_wholePackets
  show EE Γ MPartReader_wholePackets 0 [(0, .ref l0)] [] w _
  refine ee_iconst (v := (0 : Int32)) dPartReader_wholePackets_0 (by decide) ?_
  refine ee_istore_n (lv2 := [(1, .int (0 : Int32)), (0, .ref l0)]) dPartReader_wholePackets_1 (Nat.le_of_ble_eq_true rfl) rfl ?_
  refine ee_iconst (v := (0 : Int32)) dPartReader_wholePackets_2 (by decide) ?_
  refine ee_istore_n (lv2 := [(2, .int (0 : Int32)), (1, .int (0 : Int32)), (0, .ref l0)]) dPartReader_wholePackets_3 (Nat.le_of_ble_eq_true rfl) rfl ?_
  refine ee_pick [2, 1, 0] rfl ?_
  exact t_fPartReader_wholePackets_4 FUEL _ _ _ w
def fPartReader_beginsPart (l0 : Nat) (l1 : Int32) (l2 : Int32) (w : PW) : PX := (p_getR w l0 6 2).bind fun v1 => (p_obj w v1 3).bind fun _ => p_call (fHeadReader_isCode v1 l1 l2 (144 : Int32) w) <| p_kI fun v9 w9 => if v9 = 0 then (p_retZ (0 : Int32) w9) else (if (12 : Int32) ≤ (l2 - l1) then ((p_getR w9 l0 6 0).bind fun v26 => (p_obj w9 v26 2).bind fun _ => p_call (fBytes_number v26 (l1 + (6 : Int32)) (4 : Int32) w9) <| p_kJ fun v34 w34 => if (lg_cmp v34 (0 : Int64)) = 0 then (p_retZ (1 : Int32) w34) else (if (lg_cmp v34 (14 : Int64)) < 0 then (p_retZ (0 : Int32) w34) else (p_retZ (1 : Int32) w34))) else (p_retZ (0 : Int32) w9))
set_option maxRecDepth 20000 in
set_option maxHeartbeats 2000000 in
theorem t_fPartReader_beginsPart {Γ : PG} : ∀ (l0 : Nat) (l1 : Int32) (l2 : Int32) (w : PW), EE Γ MPartReader_beginsPart 0 (lv_args 0 [.ref l0, .int l1, .int l2]) [] w (fPartReader_beginsPart l0 l1 l2 w) := by
  intro l0 l1 l2 w
  unfold fPartReader_beginsPart
  show EE Γ MPartReader_beginsPart 0 [(0, .ref l0), (1, .int l1), (2, .int l2)] [] w _
  refine ee_aload_n 0 dPartReader_beginsPart_0 rfl ?_
  refine ee_getR dPartReader_beginsPart_1 lfPartReader_52 (fun v1 _ => ?_)
  refine ee_iload_n 1 dPartReader_beginsPart_4 rfl ?_
  refine ee_iload_n 2 dPartReader_beginsPart_5 rfl ?_
  refine ee_sipush (v := (144 : Int32)) dPartReader_beginsPart_6 (by decide) ?_
  refine ee_bind (fun _ ho9 => ?_)
  refine ee_callV (as := [.int l1, .int l2, .int (144 : Int32)]) (st := []) dPartReader_beginsPart_9 (t_fHeadReader_isCode v1 l1 l2 (144 : Int32) w) my_fHeadReader_isCode.1 (Nat.le_of_ble_eq_true rfl) my_fHeadReader_isCode.2 rfl cf_3.1 rfl (p_obj_eq.mp ho9) gw_672 gw_590 gw_591 ⟨Nat.le_of_ble_eq_true rfl, Nat.le_of_ble_eq_true rfl⟩ (Nat.le_of_ble_eq_true rfl) (fun rv9 w9 _ => ?_)
  refine ee_kI (fun v9 => ?_)
  refine ee_if_eq (tgt := 23) dPartReader_beginsPart_12 (by decide) (fun h12 => ?_) (fun h12 => ?_)
  · refine ee_iconst (v := (0 : Int32)) dPartReader_beginsPart_23 (by decide) ?_
    exact ee_zret rfl dPartReader_beginsPart_24
  · refine ee_iload_n 2 dPartReader_beginsPart_15 rfl ?_
    refine ee_iload_n 1 dPartReader_beginsPart_16 rfl ?_
    refine ee_isub dPartReader_beginsPart_17 ?_
    refine ee_bipush (v := (12 : Int32)) dPartReader_beginsPart_18 (by decide) ?_
    refine ee_icmp_ge (tgt := 25) dPartReader_beginsPart_20 (by decide) (fun h20 => ?_) (fun h20 => ?_)
    · refine ee_aload_n 0 dPartReader_beginsPart_25 rfl ?_
      refine ee_getR dPartReader_beginsPart_26 lfPartReader_44 (fun v26 _ => ?_)
      refine ee_iload_n 1 dPartReader_beginsPart_29 rfl ?_
      refine ee_bipush (v := (6 : Int32)) dPartReader_beginsPart_30 (by decide) ?_
      refine ee_iadd dPartReader_beginsPart_32 ?_
      refine ee_iconst (v := (4 : Int32)) dPartReader_beginsPart_33 (by decide) ?_
      refine ee_bind (fun _ ho34 => ?_)
      refine ee_callV (as := [.int (l1 + (6 : Int32)), .int (4 : Int32)]) (st := []) dPartReader_beginsPart_34 (t_fBytes_number v26 (l1 + (6 : Int32)) (4 : Int32) w9) my_fBytes_number.1 (Nat.le_of_ble_eq_true rfl) my_fBytes_number.2 rfl cf_2.1 rfl (p_obj_eq.mp ho34) gw_673 gw_538 gw_539 ⟨Nat.le_of_ble_eq_true rfl, Nat.le_of_ble_eq_true rfl⟩ (Nat.le_of_ble_eq_true rfl) (fun rv34 w34 _ => ?_)
      refine ee_kJ (fun v34 => ?_)
      refine ee_lstore_n (lv2 := [(3, .long v34), (0, .ref l0), (1, .int l1), (2, .int l2)]) dPartReader_beginsPart_37 (Nat.le_of_ble_eq_true rfl) rfl ?_
      refine ee_lload_n 0 dPartReader_beginsPart_38 rfl ?_
      refine ee_lconst (v := (0 : Int64)) dPartReader_beginsPart_39 (by decide) ?_
      refine ee_lcmp dPartReader_beginsPart_40 ?_
      refine ee_if_eq (tgt := 52) dPartReader_beginsPart_41 (by decide) (fun h41 => ?_) (fun h41 => ?_)
      · refine ee_iconst (v := (1 : Int32)) dPartReader_beginsPart_52 (by decide) ?_
        refine ee_goto (tgt := 57) dPartReader_beginsPart_53 (by decide) ?_
        exact ee_zret rfl dPartReader_beginsPart_57
      · refine ee_lload_n 0 dPartReader_beginsPart_44 rfl ?_
        refine ee_ldc2 (v := (14 : Int64)) dPartReader_beginsPart_45 gw_674 ?_
        refine ee_lcmp dPartReader_beginsPart_48 ?_
        refine ee_if_lt (tgt := 56) dPartReader_beginsPart_49 (by decide) (fun h49 => ?_) (fun h49 => ?_)
        · refine ee_iconst (v := (0 : Int32)) dPartReader_beginsPart_56 (by decide) ?_
          exact ee_zret rfl dPartReader_beginsPart_57
        · refine ee_iconst (v := (1 : Int32)) dPartReader_beginsPart_52 (by decide) ?_
          refine ee_goto (tgt := 57) dPartReader_beginsPart_53 (by decide) ?_
          exact ee_zret rfl dPartReader_beginsPart_57
    · refine ee_iconst (v := (0 : Int32)) dPartReader_beginsPart_23 (by decide) ?_
      exact ee_zret rfl dPartReader_beginsPart_24
def fPartReader_keepLengths_16 : Nat → Nat → Int32 → Int32 → Int32 → PW → PX
  | 0, _, _, _, _, _ => none
  | n9 + 1, l0, l2, l3, l4, w => if l2 ≤ l4 then (p_retZ (1 : Int32) w) else ((p_getR w l0 6 0).bind fun v23 => (p_obj w v23 2).bind fun _ => p_call (fBytes_get v23 l4 w) <| p_kI fun v28 w28 => (p_irem v28 (128 : Int32)).bind fun v48 => p_let ((((p_min l3 (100001 : Int32)) * (128 : Int32)) + v48)) fun (l3_50 : Int32) => if (128 : Int32) ≤ v28 then (p_let (l4 + (1 : Int32)) fun (l4_99 : Int32) => (fPartReader_keepLengths_16 n9) l0 l2 l3_50 l4_99 w28) else (if (100000 : Int32) < l3_50 then (p_retZ (0 : Int32) w28) else ((p_getI w28 l0 6 11).bind fun v66 => if v66 < (200 : Int32) then ((p_getR w28 l0 6 10).bind fun v78 => (p_getI w28 l0 6 11).bind fun v82 => (p_ast w28 v78 0 v82 l3_50).bind fun w86 => (p_getI w86 l0 6 11).bind fun v89 => (p_put w86 l0 6 11 (.int (v89 + (1 : Int32)))).bind fun w94 => p_let (l4 + (1 : Int32)) fun (l4_99 : Int32) => (fPartReader_keepLengths_16 n9) l0 l2 (0 : Int32) l4_99 w94) else (p_retZ (0 : Int32) w28))))
set_option maxRecDepth 20000 in
set_option maxHeartbeats 2000000 in
theorem t_fPartReader_keepLengths_16 {Γ : PG} : ∀ (n9 : Nat) (l0 : Nat) (l2 : Int32) (l3 : Int32) (l4 : Int32) (w : PW), EE Γ MPartReader_keepLengths 16 [(0, .ref l0), (2, .int l2), (3, .int l3), (4, .int l4)] [] w (fPartReader_keepLengths_16 n9 l0 l2 l3 l4 w) := by
  intro n9
  induction n9 with
  | zero => intro l0 l2 l3 l4 w; exact ee_none
  | succ n9 ih =>
    intro l0 l2 l3 l4 w
    unfold fPartReader_keepLengths_16
    refine ee_iload 3 dPartReader_keepLengths_16 rfl ?_
    refine ee_iload_n 1 dPartReader_keepLengths_18 rfl ?_
    refine ee_icmp_ge (tgt := 105) dPartReader_keepLengths_19 (by decide) (fun h19 => ?_) (fun h19 => ?_)
    · refine ee_iconst (v := (1 : Int32)) dPartReader_keepLengths_105 (by decide) ?_
      exact ee_zret rfl dPartReader_keepLengths_106
    · refine ee_aload_n 0 dPartReader_keepLengths_22 rfl ?_
      refine ee_getR dPartReader_keepLengths_23 lfPartReader_44 (fun v23 _ => ?_)
      refine ee_iload 3 dPartReader_keepLengths_26 rfl ?_
      refine ee_bind (fun _ ho28 => ?_)
      refine ee_callV (as := [.int l4]) (st := []) dPartReader_keepLengths_28 (t_fBytes_get v23 l4 w) my_fBytes_get.1 (Nat.le_of_ble_eq_true rfl) my_fBytes_get.2 rfl cf_2.1 rfl (p_obj_eq.mp ho28) gw_685 gw_459 gw_460 ⟨Nat.le_of_ble_eq_true rfl, Nat.le_of_ble_eq_true rfl⟩ (Nat.le_of_ble_eq_true rfl) (fun rv28 w28 _ => ?_)
      refine ee_kI (fun v28 => ?_)
      refine ee_istore (lv2 := [(5, .int v28), (0, .ref l0), (2, .int l2), (3, .int l3), (4, .int l4)]) dPartReader_keepLengths_31 (Nat.le_of_ble_eq_true rfl) rfl ?_
      refine ee_iload_n 3 dPartReader_keepLengths_33 rfl ?_
      refine ee_ldc (v := (100001 : Int32)) dPartReader_keepLengths_34 gw_698 ?_
      refine ee_mmin dPartReader_keepLengths_36 gw_699 gw_mmins gw_mi gw_mminc ⟨Nat.le_of_ble_eq_true rfl, Nat.le_of_ble_eq_true rfl⟩ ?_
      refine ee_sipush (v := (128 : Int32)) dPartReader_keepLengths_39 (by decide) ?_
      refine ee_imul dPartReader_keepLengths_42 ?_
      refine ee_iload 0 dPartReader_keepLengths_43 rfl ?_
      refine ee_sipush (v := (128 : Int32)) dPartReader_keepLengths_45 (by decide) ?_
      refine ee_irem dPartReader_keepLengths_48 (fun v48 _ => ?_)
      refine ee_iadd dPartReader_keepLengths_49 ?_
      refine ee_letI (fun l3_50 _ => ?_)
      refine ee_istore_n (lv2 := [(3, .int l3_50), (5, .int v28), (0, .ref l0), (2, .int l2), (4, .int l4)]) dPartReader_keepLengths_50 (Nat.le_of_ble_eq_true rfl) rfl ?_
      refine ee_iload 1 dPartReader_keepLengths_51 rfl ?_
      refine ee_sipush (v := (128 : Int32)) dPartReader_keepLengths_53 (by decide) ?_
      refine ee_icmp_ge (tgt := 99) dPartReader_keepLengths_56 (by decide) (fun h56 => ?_) (fun h56 => ?_)
      · refine ee_iinc 4 dPartReader_keepLengths_99 rfl (e := (1 : Int32)) (by decide) (Nat.le_of_ble_eq_true rfl) (fun l4_99 _ => ?_)
        refine ee_lv (lv2 := [(4, .int l4_99), (3, .int l3_50), (5, .int v28), (0, .ref l0), (2, .int l2)]) rfl ?_
        refine ee_goto (tgt := 16) dPartReader_keepLengths_102 (by decide) ?_
        refine ee_pick [3, 4, 1, 0] rfl ?_
        exact ih _ _ _ _ w28
      · refine ee_iload_n 0 dPartReader_keepLengths_59 rfl ?_
        refine ee_ldc (v := (100000 : Int32)) dPartReader_keepLengths_60 gw_700 ?_
        refine ee_icmp_gt (tgt := 75) dPartReader_keepLengths_62 (by decide) (fun h62 => ?_) (fun h62 => ?_)
        · refine ee_iconst (v := (0 : Int32)) dPartReader_keepLengths_75 (by decide) ?_
          exact ee_zret rfl dPartReader_keepLengths_76
        · refine ee_aload_n 2 dPartReader_keepLengths_65 rfl ?_
          refine ee_getI dPartReader_keepLengths_66 lfPartReader_37 (fun v66 _ => ?_)
          refine ee_sipush (v := (200 : Int32)) dPartReader_keepLengths_69 (by decide) ?_
          refine ee_icmp_lt (tgt := 77) dPartReader_keepLengths_72 (by decide) (fun h72 => ?_) (fun h72 => ?_)
          · refine ee_aload_n 2 dPartReader_keepLengths_77 rfl ?_
            refine ee_getR dPartReader_keepLengths_78 lfPartReader_34 (fun v78 _ => ?_)
            refine ee_aload_n 2 dPartReader_keepLengths_81 rfl ?_
            refine ee_getI dPartReader_keepLengths_82 lfPartReader_37 (fun v82 _ => ?_)
            refine ee_iload_n 0 dPartReader_keepLengths_85 rfl ?_
            refine ee_iast (t := 0) dPartReader_keepLengths_86 rfl (fun w86 _ => ?_)
            refine ee_aload_n 2 dPartReader_keepLengths_87 rfl ?_
            refine ee_dup dPartReader_keepLengths_88 rfl ?_
            refine ee_getI dPartReader_keepLengths_89 lfPartReader_37 (fun v89 _ => ?_)
            refine ee_iconst (v := (1 : Int32)) dPartReader_keepLengths_92 (by decide) ?_
            refine ee_iadd dPartReader_keepLengths_93 ?_
            refine ee_put dPartReader_keepLengths_94 lpPartReader_37 (ee_nI _) (fun w94 _ => ?_)
            refine ee_iconst (v := (0 : Int32)) dPartReader_keepLengths_97 (by decide) ?_
            refine ee_istore_n (lv2 := [(3, .int (0 : Int32)), (5, .int v28), (0, .ref l0), (2, .int l2), (4, .int l4)]) dPartReader_keepLengths_98 (Nat.le_of_ble_eq_true rfl) rfl ?_
            refine ee_iinc 4 dPartReader_keepLengths_99 rfl (e := (1 : Int32)) (by decide) (Nat.le_of_ble_eq_true rfl) (fun l4_99 _ => ?_)
            refine ee_lv (lv2 := [(4, .int l4_99), (3, .int (0 : Int32)), (5, .int v28), (0, .ref l0), (2, .int l2)]) rfl ?_
            refine ee_goto (tgt := 16) dPartReader_keepLengths_102 (by decide) ?_
            refine ee_pick [3, 4, 1, 0] rfl ?_
            exact ih _ _ _ _ w94
          · refine ee_iconst (v := (0 : Int32)) dPartReader_keepLengths_75 (by decide) ?_
            exact ee_zret rfl dPartReader_keepLengths_76
def fPartReader_keepLengths (l0 : Nat) (l1 : Int32) (l2 : Int32) (w : PW) : PX := if (5 : Int32) ≤ (l2 - l1) then (p_let ((l1 + (5 : Int32))) fun (l4_14 : Int32) => fPartReader_keepLengths_16 FUEL l0 l2 (0 : Int32) l4_14 w) else (p_retZ (0 : Int32) w)
set_option maxRecDepth 20000 in
set_option maxHeartbeats 2000000 in
theorem t_fPartReader_keepLengths {Γ : PG} : ∀ (l0 : Nat) (l1 : Int32) (l2 : Int32) (w : PW), EE Γ MPartReader_keepLengths 0 (lv_args 0 [.ref l0, .int l1, .int l2]) [] w (fPartReader_keepLengths l0 l1 l2 w) := by
  intro l0 l1 l2 w
  unfold fPartReader_keepLengths
  show EE Γ MPartReader_keepLengths 0 [(0, .ref l0), (1, .int l1), (2, .int l2)] [] w _
  refine ee_iload_n 2 dPartReader_keepLengths_0 rfl ?_
  refine ee_iload_n 1 dPartReader_keepLengths_1 rfl ?_
  refine ee_isub dPartReader_keepLengths_2 ?_
  refine ee_iconst (v := (5 : Int32)) dPartReader_keepLengths_3 (by decide) ?_
  refine ee_icmp_ge (tgt := 9) dPartReader_keepLengths_4 (by decide) (fun h4 => ?_) (fun h4 => ?_)
  · refine ee_iconst (v := (0 : Int32)) dPartReader_keepLengths_9 (by decide) ?_
    refine ee_istore_n (lv2 := [(3, .int (0 : Int32)), (0, .ref l0), (1, .int l1), (2, .int l2)]) dPartReader_keepLengths_10 (Nat.le_of_ble_eq_true rfl) rfl ?_
    refine ee_iload_n 2 dPartReader_keepLengths_11 rfl ?_
    refine ee_iconst (v := (5 : Int32)) dPartReader_keepLengths_12 (by decide) ?_
    refine ee_iadd dPartReader_keepLengths_13 ?_
    refine ee_letI (fun l4_14 _ => ?_)
    refine ee_istore (lv2 := [(4, .int l4_14), (3, .int (0 : Int32)), (0, .ref l0), (1, .int l1), (2, .int l2)]) dPartReader_keepLengths_14 (Nat.le_of_ble_eq_true rfl) rfl ?_
    refine ee_pick [2, 4, 1, 0] rfl ?_
    exact t_fPartReader_keepLengths_16 FUEL _ _ _ _ w
  · refine ee_iconst (v := (0 : Int32)) dPartReader_keepLengths_7 (by decide) ?_
    exact ee_zret rfl dPartReader_keepLengths_8
def fPartReader_readPartHead_140 (k_11 : Nat → Int32 → Int32 → Int32 → Int32 → PW → PX) (l0 : Nat) (l2 : Int32) (l3 : Int32) (l5 : Int32) (l6 : Int32) (s0 : Int32) (w : PW) : PX := if ¬ s0 = 0 then (p_let (l5 + (1 : Int32)) fun (l5_153 : Int32) => k_11 l0 l2 l3 l6 l5_153 w) else (some (.inl (some (.int (-1 : Int32))), w))
set_option maxRecDepth 20000 in
set_option maxHeartbeats 2000000 in
theorem t_fPartReader_readPartHead_140 {Γ : PG} {k_11 : Nat → Int32 → Int32 → Int32 → Int32 → PW → PX} (hk_11 : ∀ (l0 : Nat) (l2 : Int32) (l3 : Int32) (l4 : Int32) (l5 : Int32) (w : PW), EE Γ MPartReader_readPartHead 11 [(0, .ref l0), (2, .int l2), (3, .int l3), (4, .int l4), (5, .int l5)] [] w (k_11 l0 l2 l3 l4 l5 w)) : ∀ (l0 : Nat) (l2 : Int32) (l3 : Int32) (l5 : Int32) (l6 : Int32) (s0 : Int32) (w : PW), EE Γ MPartReader_readPartHead 140 [(0, .ref l0), (2, .int l2), (3, .int l3), (5, .int l5), (6, .int l6)] [.int s0] w (fPartReader_readPartHead_140 k_11 l0 l2 l3 l5 l6 s0 w) := by
  intro l0 l2 l3 l5 l6 s0 w
  unfold fPartReader_readPartHead_140
  refine ee_istore (lv2 := [(9, .int s0), (0, .ref l0), (2, .int l2), (3, .int l3), (5, .int l5), (6, .int l6)]) dPartReader_readPartHead_140 (Nat.le_of_ble_eq_true rfl) rfl ?_
  refine ee_iload 0 dPartReader_readPartHead_142 rfl ?_
  refine ee_if_ne (tgt := 149) dPartReader_readPartHead_144 (by decide) (fun h144 => ?_) (fun h144 => ?_)
  · refine ee_iload 5 dPartReader_readPartHead_149 rfl ?_
    refine ee_istore (lv2 := [(4, .int l6), (9, .int s0), (0, .ref l0), (2, .int l2), (3, .int l3), (5, .int l5), (6, .int l6)]) dPartReader_readPartHead_151 (Nat.le_of_ble_eq_true rfl) rfl ?_
    refine ee_iinc 5 dPartReader_readPartHead_153 rfl (e := (1 : Int32)) (by decide) (Nat.le_of_ble_eq_true rfl) (fun l5_153 _ => ?_)
    refine ee_lv (lv2 := [(5, .int l5_153), (4, .int l6), (9, .int s0), (0, .ref l0), (2, .int l2), (3, .int l3), (6, .int l6)]) rfl ?_
    refine ee_goto (tgt := 11) dPartReader_readPartHead_156 (by decide) ?_
    refine ee_pick [3, 4, 5, 1, 0] rfl ?_
    exact hk_11 _ _ _ _ _ w
  · refine ee_iconst (v := (-1 : Int32)) dPartReader_readPartHead_147 (by decide) ?_
    exact ee_iret rfl dPartReader_readPartHead_148
def fPartReader_readPartHead_95 (k_11 : Nat → Int32 → Int32 → Int32 → Int32 → PW → PX) (l0 : Nat) (l2 : Int32) (l3 : Int32) (l4 : Int32) (l5 : Int32) (l6 : Int32) (l7 : Int32) (s0 : Int32) (w : PW) : PX := if ¬ l7 = (88 : Int32) then (if ¬ s0 = 0 then (fPartReader_readPartHead_140 k_11 l0 l2 l3 l5 l6 (0 : Int32) w) else ((p_getR w l0 6 2).bind fun v121 => (p_obj w v121 3).bind fun _ => p_call (fHeadReader_keepSegment v121 l4 l6 l3 w) <| p_kI fun v129 w129 => if v129 = 0 then (fPartReader_readPartHead_140 k_11 l0 l2 l3 l5 l6 (0 : Int32) w129) else (fPartReader_readPartHead_140 k_11 l0 l2 l3 l5 l6 (1 : Int32) w129))) else ((p_obj w l0 6).bind fun _ => p_call (fPartReader_keepLengths l0 l4 l6 w) <| p_kI fun v109 w109 => fPartReader_readPartHead_140 k_11 l0 l2 l3 l5 l6 v109 w109)
set_option maxRecDepth 20000 in
set_option maxHeartbeats 2000000 in
theorem t_fPartReader_readPartHead_95 {Γ : PG} {k_11 : Nat → Int32 → Int32 → Int32 → Int32 → PW → PX} (hk_11 : ∀ (l0 : Nat) (l2 : Int32) (l3 : Int32) (l4 : Int32) (l5 : Int32) (w : PW), EE Γ MPartReader_readPartHead 11 [(0, .ref l0), (2, .int l2), (3, .int l3), (4, .int l4), (5, .int l5)] [] w (k_11 l0 l2 l3 l4 l5 w)) : ∀ (l0 : Nat) (l2 : Int32) (l3 : Int32) (l4 : Int32) (l5 : Int32) (l6 : Int32) (l7 : Int32) (s0 : Int32) (w : PW), EE Γ MPartReader_readPartHead 95 [(0, .ref l0), (2, .int l2), (3, .int l3), (4, .int l4), (5, .int l5), (6, .int l6), (7, .int l7)] [.int s0] w (fPartReader_readPartHead_95 k_11 l0 l2 l3 l4 l5 l6 l7 s0 w) := by
  intro l0 l2 l3 l4 l5 l6 l7 s0 w
  unfold fPartReader_readPartHead_95
  refine ee_istore (lv2 := [(8, .int s0), (0, .ref l0), (2, .int l2), (3, .int l3), (4, .int l4), (5, .int l5), (6, .int l6), (7, .int l7)]) dPartReader_readPartHead_95 (Nat.le_of_ble_eq_true rfl) rfl ?_
  refine ee_iload 7 dPartReader_readPartHead_97 rfl ?_
  refine ee_bipush (v := (88 : Int32)) dPartReader_readPartHead_99 (by decide) ?_
  refine ee_icmp_ne (tgt := 115) dPartReader_readPartHead_101 (by decide) (fun h101 => ?_) (fun h101 => ?_)
  · refine ee_iload 0 dPartReader_readPartHead_115 rfl ?_
    refine ee_if_ne (tgt := 139) dPartReader_readPartHead_117 (by decide) (fun h117 => ?_) (fun h117 => ?_)
    · refine ee_iconst (v := (0 : Int32)) dPartReader_readPartHead_139 (by decide) ?_
      refine ee_pick [1, 2, 3, 5, 6] rfl ?_
      exact t_fPartReader_readPartHead_140 hk_11 _ _ _ _ _ _ w
    · refine ee_aload_n 1 dPartReader_readPartHead_120 rfl ?_
      refine ee_getR dPartReader_readPartHead_121 lfPartReader_52 (fun v121 _ => ?_)
      refine ee_iload 4 dPartReader_readPartHead_124 rfl ?_
      refine ee_iload 6 dPartReader_readPartHead_126 rfl ?_
      refine ee_iload_n 3 dPartReader_readPartHead_128 rfl ?_
      refine ee_bind (fun _ ho129 => ?_)
      refine ee_callV (as := [.int l4, .int l6, .int l3]) (st := []) dPartReader_readPartHead_129 (t_fHeadReader_keepSegment v121 l4 l6 l3 w) my_fHeadReader_keepSegment.1 (Nat.le_of_ble_eq_true rfl) my_fHeadReader_keepSegment.2 rfl cf_3.1 rfl (p_obj_eq.mp ho129) gw_701 gw_643 gw_644 ⟨Nat.le_of_ble_eq_true rfl, Nat.le_of_ble_eq_true rfl⟩ (Nat.le_of_ble_eq_true rfl) (fun rv129 w129 _ => ?_)
      refine ee_kI (fun v129 => ?_)
      refine ee_if_eq (tgt := 139) dPartReader_readPartHead_132 (by decide) (fun h132 => ?_) (fun h132 => ?_)
      · refine ee_iconst (v := (0 : Int32)) dPartReader_readPartHead_139 (by decide) ?_
        refine ee_pick [1, 2, 3, 5, 6] rfl ?_
        exact t_fPartReader_readPartHead_140 hk_11 _ _ _ _ _ _ w129
      · refine ee_iconst (v := (1 : Int32)) dPartReader_readPartHead_135 (by decide) ?_
        refine ee_goto (tgt := 140) dPartReader_readPartHead_136 (by decide) ?_
        refine ee_pick [1, 2, 3, 5, 6] rfl ?_
        exact t_fPartReader_readPartHead_140 hk_11 _ _ _ _ _ _ w129
  · refine ee_aload_n 1 dPartReader_readPartHead_104 rfl ?_
    refine ee_iload 4 dPartReader_readPartHead_105 rfl ?_
    refine ee_iload 6 dPartReader_readPartHead_107 rfl ?_
    refine ee_bind (fun _ ho109 => ?_)
    refine ee_callV (as := [.int l4, .int l6]) (st := []) dPartReader_readPartHead_109 (t_fPartReader_keepLengths l0 l4 l6 w) my_fPartReader_keepLengths.1 (Nat.le_of_ble_eq_true rfl) my_fPartReader_keepLengths.2 rfl cf_6.1 rfl (p_obj_eq.mp ho109) gw_694 gw_695 gw_696 ⟨Nat.le_of_ble_eq_true rfl, Nat.le_of_ble_eq_true rfl⟩ (Nat.le_of_ble_eq_true rfl) (fun rv109 w109 _ => ?_)
    refine ee_kI (fun v109 => ?_)
    refine ee_goto (tgt := 140) dPartReader_readPartHead_112 (by decide) ?_
    refine ee_pick [1, 2, 3, 5, 6] rfl ?_
    exact t_fPartReader_readPartHead_140 hk_11 _ _ _ _ _ _ w109
def fPartReader_readPartHead_11 : Nat → Nat → Int32 → Int32 → Int32 → Int32 → PW → PX
  | 0, _, _, _, _, _, _ => none
  | n9 + 1, l0, l2, l3, l4, l5, w => if (20000 : Int32) ≤ l5 then (some (.inl (some (.int (-1 : Int32))), w)) else ((p_getR w l0 6 2).bind fun v20 => (p_obj w v20 3).bind fun _ => p_call (fHeadReader_isCode v20 l4 l2 (147 : Int32) w) <| p_kI fun v29 w29 => if v29 = 0 then ((p_getR w29 l0 6 2).bind fun v41 => (p_obj w29 v41 3).bind fun _ => p_call (fHeadReader_segmentEnd v41 l4 l2 w29) <| p_kI fun v47 w47 => if ¬ v47 = (-1 : Int32) then ((p_getR w47 l0 6 0).bind fun v61 => (p_obj w47 v61 2).bind fun _ => p_call (fBytes_get v61 (l4 + (1 : Int32)) w47) <| p_kI fun v68 w68 => p_call (fHeadReader_isSegmentCode v68 w68) <| p_kI fun v75 w75 => if v75 = 0 then (fPartReader_readPartHead_95 (fPartReader_readPartHead_11 n9) l0 l2 l3 l4 l5 v47 v68 (0 : Int32) w75) else ((p_getR w75 l0 6 9).bind fun v82 => (p_ald w75 v82 0 l3).bind fun v86 => if v86 ≤ 0 then (fPartReader_readPartHead_95 (fPartReader_readPartHead_11 n9) l0 l2 l3 l4 l5 v47 v68 (0 : Int32) w75) else (fPartReader_readPartHead_95 (fPartReader_readPartHead_11 n9) l0 l2 l3 l4 l5 v47 v68 (1 : Int32) w75))) else (some (.inl (some (.int (-1 : Int32))), w47))) else (some (.inl (some (.int (l4 + (2 : Int32)))), w29)))
set_option maxRecDepth 20000 in
set_option maxHeartbeats 2000000 in
theorem t_fPartReader_readPartHead_11 {Γ : PG} : ∀ (n9 : Nat) (l0 : Nat) (l2 : Int32) (l3 : Int32) (l4 : Int32) (l5 : Int32) (w : PW), EE Γ MPartReader_readPartHead 11 [(0, .ref l0), (2, .int l2), (3, .int l3), (4, .int l4), (5, .int l5)] [] w (fPartReader_readPartHead_11 n9 l0 l2 l3 l4 l5 w) := by
  intro n9
  induction n9 with
  | zero => intro l0 l2 l3 l4 l5 w; exact ee_none
  | succ n9 ih =>
    intro l0 l2 l3 l4 l5 w
    unfold fPartReader_readPartHead_11
    refine ee_iload 4 dPartReader_readPartHead_11 rfl ?_
    refine ee_sipush (v := (20000 : Int32)) dPartReader_readPartHead_13 (by decide) ?_
    refine ee_icmp_ge (tgt := 159) dPartReader_readPartHead_16 (by decide) (fun h16 => ?_) (fun h16 => ?_)
    · refine ee_iconst (v := (-1 : Int32)) dPartReader_readPartHead_159 (by decide) ?_
      exact ee_iret rfl dPartReader_readPartHead_160
    · refine ee_aload_n 0 dPartReader_readPartHead_19 rfl ?_
      refine ee_getR dPartReader_readPartHead_20 lfPartReader_52 (fun v20 _ => ?_)
      refine ee_iload 3 dPartReader_readPartHead_23 rfl ?_
      refine ee_iload_n 1 dPartReader_readPartHead_25 rfl ?_
      refine ee_sipush (v := (147 : Int32)) dPartReader_readPartHead_26 (by decide) ?_
      refine ee_bind (fun _ ho29 => ?_)
      refine ee_callV (as := [.int l4, .int l2, .int (147 : Int32)]) (st := []) dPartReader_readPartHead_29 (t_fHeadReader_isCode v20 l4 l2 (147 : Int32) w) my_fHeadReader_isCode.1 (Nat.le_of_ble_eq_true rfl) my_fHeadReader_isCode.2 rfl cf_3.1 rfl (p_obj_eq.mp ho29) gw_672 gw_590 gw_591 ⟨Nat.le_of_ble_eq_true rfl, Nat.le_of_ble_eq_true rfl⟩ (Nat.le_of_ble_eq_true rfl) (fun rv29 w29 _ => ?_)
      refine ee_kI (fun v29 => ?_)
      refine ee_if_eq (tgt := 40) dPartReader_readPartHead_32 (by decide) (fun h32 => ?_) (fun h32 => ?_)
      · refine ee_aload_n 0 dPartReader_readPartHead_40 rfl ?_
        refine ee_getR dPartReader_readPartHead_41 lfPartReader_52 (fun v41 _ => ?_)
        refine ee_iload 3 dPartReader_readPartHead_44 rfl ?_
        refine ee_iload_n 1 dPartReader_readPartHead_46 rfl ?_
        refine ee_bind (fun _ ho47 => ?_)
        refine ee_callV (as := [.int l4, .int l2]) (st := []) dPartReader_readPartHead_47 (t_fHeadReader_segmentEnd v41 l4 l2 w29) my_fHeadReader_segmentEnd.1 (Nat.le_of_ble_eq_true rfl) my_fHeadReader_segmentEnd.2 rfl cf_3.1 rfl (p_obj_eq.mp ho47) gw_690 gw_595 gw_596 ⟨Nat.le_of_ble_eq_true rfl, Nat.le_of_ble_eq_true rfl⟩ (Nat.le_of_ble_eq_true rfl) (fun rv47 w47 _ => ?_)
        refine ee_kI (fun v47 => ?_)
        refine ee_istore (lv2 := [(6, .int v47), (0, .ref l0), (2, .int l2), (3, .int l3), (4, .int l4), (5, .int l5)]) dPartReader_readPartHead_50 (Nat.le_of_ble_eq_true rfl) rfl ?_
        refine ee_iload 0 dPartReader_readPartHead_52 rfl ?_
        refine ee_iconst (v := (-1 : Int32)) dPartReader_readPartHead_54 (by decide) ?_
        refine ee_icmp_ne (tgt := 60) dPartReader_readPartHead_55 (by decide) (fun h55 => ?_) (fun h55 => ?_)
        · refine ee_aload_n 1 dPartReader_readPartHead_60 rfl ?_
          refine ee_getR dPartReader_readPartHead_61 lfPartReader_44 (fun v61 _ => ?_)
          refine ee_iload 4 dPartReader_readPartHead_64 rfl ?_
          refine ee_iconst (v := (1 : Int32)) dPartReader_readPartHead_66 (by decide) ?_
          refine ee_iadd dPartReader_readPartHead_67 ?_
          refine ee_bind (fun _ ho68 => ?_)
          refine ee_callV (as := [.int (l4 + (1 : Int32))]) (st := []) dPartReader_readPartHead_68 (t_fBytes_get v61 (l4 + (1 : Int32)) w47) my_fBytes_get.1 (Nat.le_of_ble_eq_true rfl) my_fBytes_get.2 rfl cf_2.1 rfl (p_obj_eq.mp ho68) gw_685 gw_459 gw_460 ⟨Nat.le_of_ble_eq_true rfl, Nat.le_of_ble_eq_true rfl⟩ (Nat.le_of_ble_eq_true rfl) (fun rv68 w68 _ => ?_)
          refine ee_kI (fun v68 => ?_)
          refine ee_istore (lv2 := [(7, .int v68), (6, .int v47), (0, .ref l0), (2, .int l2), (3, .int l3), (4, .int l4), (5, .int l5)]) dPartReader_readPartHead_71 (Nat.le_of_ble_eq_true rfl) rfl ?_
          refine ee_iload 0 dPartReader_readPartHead_73 rfl ?_
          refine ee_callS (as := [.int v68]) (st := []) dPartReader_readPartHead_75 (t_fHeadReader_isSegmentCode v68 w68) my_fHeadReader_isSegmentCode.1 (Nat.le_of_ble_eq_true rfl) my_fHeadReader_isSegmentCode.2 rfl gw_691 gw_692 ⟨Nat.le_of_ble_eq_true rfl, Nat.le_of_ble_eq_true rfl⟩ (Nat.le_of_ble_eq_true rfl) (fun rv75 w75 _ => ?_)
          refine ee_kI (fun v75 => ?_)
          refine ee_if_eq (tgt := 94) dPartReader_readPartHead_78 (by decide) (fun h78 => ?_) (fun h78 => ?_)
          · refine ee_iconst (v := (0 : Int32)) dPartReader_readPartHead_94 (by decide) ?_
            refine ee_pick [2, 3, 4, 5, 6, 1, 0] rfl ?_
            exact t_fPartReader_readPartHead_95 ih _ _ _ _ _ _ _ _ w75
          · refine ee_aload_n 2 dPartReader_readPartHead_81 rfl ?_
            refine ee_getR dPartReader_readPartHead_82 lfPartReader_31 (fun v82 _ => ?_)
            refine ee_iload_n 4 dPartReader_readPartHead_85 rfl ?_
            refine ee_iald (t := 0) dPartReader_readPartHead_86 rfl (fun v86 _ => ?_)
            refine ee_if_le (tgt := 94) dPartReader_readPartHead_87 (by decide) (fun h87 => ?_) (fun h87 => ?_)
            · refine ee_iconst (v := (0 : Int32)) dPartReader_readPartHead_94 (by decide) ?_
              refine ee_pick [2, 3, 4, 5, 6, 1, 0] rfl ?_
              exact t_fPartReader_readPartHead_95 ih _ _ _ _ _ _ _ _ w75
            · refine ee_iconst (v := (1 : Int32)) dPartReader_readPartHead_90 (by decide) ?_
              refine ee_goto (tgt := 95) dPartReader_readPartHead_91 (by decide) ?_
              refine ee_pick [2, 3, 4, 5, 6, 1, 0] rfl ?_
              exact t_fPartReader_readPartHead_95 ih _ _ _ _ _ _ _ _ w75
        · refine ee_iconst (v := (-1 : Int32)) dPartReader_readPartHead_58 (by decide) ?_
          exact ee_iret rfl dPartReader_readPartHead_59
      · refine ee_iload 3 dPartReader_readPartHead_35 rfl ?_
        refine ee_iconst (v := (2 : Int32)) dPartReader_readPartHead_37 (by decide) ?_
        refine ee_iadd dPartReader_readPartHead_38 ?_
        exact ee_iret rfl dPartReader_readPartHead_39
def fPartReader_readPartHead (l0 : Nat) (l1 : Int32) (l2 : Int32) (l3 : Int32) (w : PW) : PX := (p_put w l0 6 11 (.int (0 : Int32))).bind fun w5 => fPartReader_readPartHead_11 FUEL l0 l2 l3 l1 (0 : Int32) w5
set_option maxRecDepth 20000 in
set_option maxHeartbeats 2000000 in
theorem t_fPartReader_readPartHead {Γ : PG} : ∀ (l0 : Nat) (l1 : Int32) (l2 : Int32) (l3 : Int32) (w : PW), EE Γ MPartReader_readPartHead 0 (lv_args 0 [.ref l0, .int l1, .int l2, .int l3]) [] w (fPartReader_readPartHead l0 l1 l2 l3 w) := by
  intro l0 l1 l2 l3 w
  unfold fPartReader_readPartHead
  show EE Γ MPartReader_readPartHead 0 [(0, .ref l0), (1, .int l1), (2, .int l2), (3, .int l3)] [] w _
  refine ee_iload_n 1 dPartReader_readPartHead_0 rfl ?_
  refine ee_istore (lv2 := [(4, .int l1), (0, .ref l0), (1, .int l1), (2, .int l2), (3, .int l3)]) dPartReader_readPartHead_1 (Nat.le_of_ble_eq_true rfl) rfl ?_
  refine ee_aload_n 1 dPartReader_readPartHead_3 rfl ?_
  refine ee_iconst (v := (0 : Int32)) dPartReader_readPartHead_4 (by decide) ?_
  refine ee_put dPartReader_readPartHead_5 lpPartReader_37 (ee_nI _) (fun w5 _ => ?_)
  refine ee_iconst (v := (0 : Int32)) dPartReader_readPartHead_8 (by decide) ?_
  refine ee_istore (lv2 := [(5, .int (0 : Int32)), (4, .int l1), (0, .ref l0), (1, .int l1), (2, .int l2), (3, .int l3)]) dPartReader_readPartHead_9 (Nat.le_of_ble_eq_true rfl) rfl ?_
  refine ee_pick [2, 4, 5, 1, 0] rfl ?_
  exact t_fPartReader_readPartHead_11 FUEL _ _ _ _ _ w5
