def fHeadReader_keepStep (l0 : Nat) (l1 : Int32) (l2 : Int32) (w : PW) : PX := (p_getR w l0 3 0).bind fun v1 => (p_obj w v1 2).bind fun _ => p_call (fBytes_get v1 l1 w) <| p_kI fun v5 w5 => (p_getR w5 l0 3 0).bind fun v10 => (p_obj w5 v10 2).bind fun _ => p_call (fBytes_number v10 (l1 + (1 : Int32)) (2 : Int32) w5) <| p_kJ fun v17 w17 => p_let ((Int64.toInt32 v17)) fun (l4_21 : Int32) => (p_irem v5 (32 : Int32)).bind fun v26 => if ¬ v26 = (1 : Int32) then (p_retZ (0 : Int32) w17) else ((p_irem l4_21 (2048 : Int32)).bind fun v36 => if v36 = 0 then ((p_getR w17 l0 3 1).bind fun v43 => (p_idiv v5 (32 : Int32)).bind fun v52 => (p_obj w17 v43 7).bind fun _ => p_call (fSettings_hold v43 l2 (10 : Int32) v52 w17) <| p_kV fun w53 => (p_getR w53 l0 3 1).bind fun v57 => (p_idiv l4_21 (2048 : Int32)).bind fun v68 => (p_obj w53 v57 7).bind fun _ => p_call (fSettings_hold v57 l2 (9 : Int32) v68 w53) <| p_kV fun w69 => p_retZ (1 : Int32) w69) else (p_retZ (0 : Int32) w17))
set_option maxRecDepth 20000 in
set_option maxHeartbeats 2000000 in
theorem t_fHeadReader_keepStep {Γ : PG} : ∀ (l0 : Nat) (l1 : Int32) (l2 : Int32) (w : PW), EE Γ MHeadReader_keepStep 0 (lv_args 0 [.ref l0, .int l1, .int l2]) [] w (fHeadReader_keepStep l0 l1 l2 w) := by
  intro l0 l1 l2 w
  unfold fHeadReader_keepStep
  show EE Γ MHeadReader_keepStep 0 [(0, .ref l0), (1, .int l1), (2, .int l2)] [] w _
  refine ee_aload_n 0 dHeadReader_keepStep_0 rfl ?_
  refine ee_getR dHeadReader_keepStep_1 lfHeadReader_15 (fun v1 _ => ?_)
  refine ee_iload_n 1 dHeadReader_keepStep_4 rfl ?_
  refine ee_bind (fun _ ho5 => ?_)
  refine ee_callV (as := [.int l1]) (st := []) dHeadReader_keepStep_5 (t_fBytes_get v1 l1 w) my_fBytes_get.1 (Nat.le_of_ble_eq_true rfl) my_fBytes_get.2 rfl cf_2.1 rfl (p_obj_eq.mp ho5) gw_593 gw_459 gw_460 ⟨Nat.le_of_ble_eq_true rfl, Nat.le_of_ble_eq_true rfl⟩ (Nat.le_of_ble_eq_true rfl) (fun rv5 w5 _ => ?_)
  refine ee_kI (fun v5 => ?_)
  refine ee_istore_n (lv2 := [(3, .int v5), (0, .ref l0), (1, .int l1), (2, .int l2)]) dHeadReader_keepStep_8 (Nat.le_of_ble_eq_true rfl) rfl ?_
  refine ee_aload_n 1 dHeadReader_keepStep_9 rfl ?_
  refine ee_getR dHeadReader_keepStep_10 lfHeadReader_15 (fun v10 _ => ?_)
  refine ee_iload_n 2 dHeadReader_keepStep_13 rfl ?_
  refine ee_iconst (v := (1 : Int32)) dHeadReader_keepStep_14 (by decide) ?_
  refine ee_iadd dHeadReader_keepStep_15 ?_
  refine ee_iconst (v := (2 : Int32)) dHeadReader_keepStep_16 (by decide) ?_
  refine ee_bind (fun _ ho17 => ?_)
  refine ee_callV (as := [.int (l1 + (1 : Int32)), .int (2 : Int32)]) (st := []) dHeadReader_keepStep_17 (t_fBytes_number v10 (l1 + (1 : Int32)) (2 : Int32) w5) my_fBytes_number.1 (Nat.le_of_ble_eq_true rfl) my_fBytes_number.2 rfl cf_2.1 rfl (p_obj_eq.mp ho17) gw_598 gw_538 gw_539 ⟨Nat.le_of_ble_eq_true rfl, Nat.le_of_ble_eq_true rfl⟩ (Nat.le_of_ble_eq_true rfl) (fun rv17 w17 _ => ?_)
  refine ee_kJ (fun v17 => ?_)
  refine ee_l2i dHeadReader_keepStep_20 ?_
  refine ee_letI (fun l4_21 _ => ?_)
  refine ee_istore (lv2 := [(4, .int l4_21), (3, .int v5), (0, .ref l0), (1, .int l1), (2, .int l2)]) dHeadReader_keepStep_21 (Nat.le_of_ble_eq_true rfl) rfl ?_
  refine ee_iload_n 1 dHeadReader_keepStep_23 rfl ?_
  refine ee_bipush (v := (32 : Int32)) dHeadReader_keepStep_24 (by decide) ?_
  refine ee_irem dHeadReader_keepStep_26 (fun v26 _ => ?_)
  refine ee_iconst (v := (1 : Int32)) dHeadReader_keepStep_27 (by decide) ?_
  refine ee_icmp_ne (tgt := 40) dHeadReader_keepStep_28 (by decide) (fun h28 => ?_) (fun h28 => ?_)
  · refine ee_iconst (v := (0 : Int32)) dHeadReader_keepStep_40 (by decide) ?_
    exact ee_zret rfl dHeadReader_keepStep_41
  · refine ee_iload 0 dHeadReader_keepStep_31 rfl ?_
    refine ee_sipush (v := (2048 : Int32)) dHeadReader_keepStep_33 (by decide) ?_
    refine ee_irem dHeadReader_keepStep_36 (fun v36 _ => ?_)
    refine ee_if_eq (tgt := 42) dHeadReader_keepStep_37 (by decide) (fun h37 => ?_) (fun h37 => ?_)
    · refine ee_aload_n 2 dHeadReader_keepStep_42 rfl ?_
      refine ee_getR dHeadReader_keepStep_43 lfHeadReader_19 (fun v43 _ => ?_)
      refine ee_iload_n 4 dHeadReader_keepStep_46 rfl ?_
      refine ee_bipush (v := (10 : Int32)) dHeadReader_keepStep_47 (by decide) ?_
      refine ee_iload_n 1 dHeadReader_keepStep_49 rfl ?_
      refine ee_bipush (v := (32 : Int32)) dHeadReader_keepStep_50 (by decide) ?_
      refine ee_idiv dHeadReader_keepStep_52 (fun v52 _ => ?_)
      refine ee_bind (fun _ ho53 => ?_)
      refine ee_callV (as := [.int l2, .int (10 : Int32), .int v52]) (st := []) dHeadReader_keepStep_53 (t_fSettings_hold v43 l2 (10 : Int32) v52 w17) my_fSettings_hold.1 (Nat.le_of_ble_eq_true rfl) my_fSettings_hold.2 rfl cf_7.1 rfl (p_obj_eq.mp ho53) gw_651 gw_316 gw_317 ⟨Nat.le_of_ble_eq_true rfl, Nat.le_of_ble_eq_true rfl⟩ (Nat.le_of_ble_eq_true rfl) (fun rv53 w53 _ => ?_)
      refine ee_kV ?_
      refine ee_aload_n 2 dHeadReader_keepStep_56 rfl ?_
      refine ee_getR dHeadReader_keepStep_57 lfHeadReader_19 (fun v57 _ => ?_)
      refine ee_iload_n 4 dHeadReader_keepStep_60 rfl ?_
      refine ee_bipush (v := (9 : Int32)) dHeadReader_keepStep_61 (by decide) ?_
      refine ee_iload 0 dHeadReader_keepStep_63 rfl ?_
      refine ee_sipush (v := (2048 : Int32)) dHeadReader_keepStep_65 (by decide) ?_
      refine ee_idiv dHeadReader_keepStep_68 (fun v68 _ => ?_)
      refine ee_bind (fun _ ho69 => ?_)
      refine ee_callV (as := [.int l2, .int (9 : Int32), .int v68]) (st := []) dHeadReader_keepStep_69 (t_fSettings_hold v57 l2 (9 : Int32) v68 w53) my_fSettings_hold.1 (Nat.le_of_ble_eq_true rfl) my_fSettings_hold.2 rfl cf_7.1 rfl (p_obj_eq.mp ho69) gw_651 gw_316 gw_317 ⟨Nat.le_of_ble_eq_true rfl, Nat.le_of_ble_eq_true rfl⟩ (Nat.le_of_ble_eq_true rfl) (fun rv69 w69 _ => ?_)
      refine ee_kV ?_
      refine ee_iconst (v := (1 : Int32)) dHeadReader_keepStep_72 (by decide) ?_
      exact ee_zret rfl dHeadReader_keepStep_73
    · refine ee_iconst (v := (0 : Int32)) dHeadReader_keepStep_40 (by decide) ?_
      exact ee_zret rfl dHeadReader_keepStep_41
def fHeadReader_keepSegment (l0 : Nat) (l1 : Int32) (l2 : Int32) (l3 : Int32) (w : PW) : PX := (p_getR w l0 3 0).bind fun v1 => (p_obj w v1 2).bind fun _ => p_call (fBytes_get v1 (l1 + (1 : Int32)) w) <| p_kI fun v7 w7 => if v7 = (82 : Int32) then (if ¬ (l2 - l1) = (14 : Int32) then (p_retZ (0 : Int32) w7) else ((p_obj w7 l0 3).bind fun _ => p_call (fHeadReader_keepStyleForAll l0 l1 l3 w7) <| p_kI fun v63 w63 => if v63 = 0 then (p_retZ (0 : Int32) w63) else (p_call (fSettings_slotOf l3 (-1 : Int32) w63) <| p_kI fun v76 w76 => (p_obj w76 l0 3).bind fun _ => p_call (fHeadReader_keepStyle l0 (l1 + (8 : Int32)) v76 w76) <| p_kI fun v79 w79 => if v79 = 0 then (p_retZ (0 : Int32) w79) else (p_retZ (1 : Int32) w79)))) else if v7 = (83 : Int32) then (if ¬ (l2 - l1) = (11 : Int32) then (p_retZ (0 : Int32) w7) else ((p_getR w7 l0 3 1).bind fun v100 => (p_getR w7 l0 3 0).bind fun v104 => (p_obj w7 v104 2).bind fun _ => p_call (fBytes_get v104 (l1 + (4 : Int32)) w7) <| p_kI fun v110 w110 => (p_obj w110 v100 7).bind fun _ => p_call (fSettings_isComponent v100 v110 w110) <| p_kI fun v113 w113 => if v113 = 0 then (p_retZ (0 : Int32) w113) else ((p_getR w113 l0 3 0).bind fun v125 => (p_obj w113 v125 2).bind fun _ => p_call (fBytes_get v125 (l1 + (4 : Int32)) w113) <| p_kI fun v131 w131 => p_call (fSettings_slotOf l3 v131 w131) <| p_kI fun v134 w134 => (p_obj w134 l0 3).bind fun _ => p_call (fHeadReader_keepStyle l0 (l1 + (5 : Int32)) v134 w134) <| p_kI fun v137 w137 => if v137 = 0 then (p_retZ (0 : Int32) w137) else (p_retZ (1 : Int32) w137)))) else if v7 = (92 : Int32) then (if ¬ (l2 - l1) = (7 : Int32) then (p_retZ (0 : Int32) w7) else (p_call (fSettings_slotOf l3 (-1 : Int32) w7) <| p_kI fun v163 w163 => (p_obj w163 l0 3).bind fun _ => p_call (fHeadReader_keepStep l0 (l1 + (4 : Int32)) v163 w163) <| p_kI fun v166 w166 => if v166 = 0 then (p_retZ (0 : Int32) w166) else (p_retZ (1 : Int32) w166))) else if v7 = (93 : Int32) then (if ¬ (l2 - l1) = (8 : Int32) then (p_retZ (0 : Int32) w7) else ((p_getR w7 l0 3 1).bind fun v187 => (p_getR w7 l0 3 0).bind fun v191 => (p_obj w7 v191 2).bind fun _ => p_call (fBytes_get v191 (l1 + (4 : Int32)) w7) <| p_kI fun v197 w197 => (p_obj w197 v187 7).bind fun _ => p_call (fSettings_isComponent v187 v197 w197) <| p_kI fun v200 w200 => if v200 = 0 then (p_retZ (0 : Int32) w200) else ((p_getR w200 l0 3 0).bind fun v212 => (p_obj w200 v212 2).bind fun _ => p_call (fBytes_get v212 (l1 + (4 : Int32)) w200) <| p_kI fun v218 w218 => p_call (fSettings_slotOf l3 v218 w218) <| p_kI fun v221 w221 => (p_obj w221 l0 3).bind fun _ => p_call (fHeadReader_keepStep l0 (l1 + (5 : Int32)) v221 w221) <| p_kI fun v224 w224 => if v224 = 0 then (p_retZ (0 : Int32) w224) else (p_retZ (1 : Int32) w224)))) else (p_retZ (1 : Int32) w7)
set_option maxRecDepth 20000 in
set_option maxHeartbeats 2000000 in
theorem t_fHeadReader_keepSegment {Γ : PG} : ∀ (l0 : Nat) (l1 : Int32) (l2 : Int32) (l3 : Int32) (w : PW), EE Γ MHeadReader_keepSegment 0 (lv_args 0 [.ref l0, .int l1, .int l2, .int l3]) [] w (fHeadReader_keepSegment l0 l1 l2 l3 w) := by
  intro l0 l1 l2 l3 w
  unfold fHeadReader_keepSegment
  show EE Γ MHeadReader_keepSegment 0 [(0, .ref l0), (1, .int l1), (2, .int l2), (3, .int l3)] [] w _
  refine ee_aload_n 0 dHeadReader_keepSegment_0 rfl ?_
  refine ee_getR dHeadReader_keepSegment_1 lfHeadReader_15 (fun v1 _ => ?_)
  refine ee_iload_n 1 dHeadReader_keepSegment_4 rfl ?_
  refine ee_iconst (v := (1 : Int32)) dHeadReader_keepSegment_5 (by decide) ?_
  refine ee_iadd dHeadReader_keepSegment_6 ?_
  refine ee_bind (fun _ ho7 => ?_)
  refine ee_callV (as := [.int (l1 + (1 : Int32))]) (st := []) dHeadReader_keepSegment_7 (t_fBytes_get v1 (l1 + (1 : Int32)) w) my_fBytes_get.1 (Nat.le_of_ble_eq_true rfl) my_fBytes_get.2 rfl cf_2.1 rfl (p_obj_eq.mp ho7) gw_593 gw_459 gw_460 ⟨Nat.le_of_ble_eq_true rfl, Nat.le_of_ble_eq_true rfl⟩ (Nat.le_of_ble_eq_true rfl) (fun rv7 w7 _ => ?_)
  refine ee_kI (fun v7 => ?_)
  refine ee_ite (fun h10_82 => ?_) (fun h10_82 => ?_)
  · refine ee_look (tgt := 52) (off := 42) dHeadReader_keepSegment_10 (by decide) (by rw [h10_82] <;> rfl) (by decide) ?_
    refine ee_iload_n 2 dHeadReader_keepSegment_52 rfl ?_
    refine ee_iload_n 1 dHeadReader_keepSegment_53 rfl ?_
    refine ee_isub dHeadReader_keepSegment_54 ?_
    refine ee_bipush (v := (14 : Int32)) dHeadReader_keepSegment_55 (by decide) ?_
    refine ee_icmp_ne (tgt := 89) dHeadReader_keepSegment_57 (by decide) (fun h57 => ?_) (fun h57 => ?_)
    · refine ee_iconst (v := (0 : Int32)) dHeadReader_keepSegment_89 (by decide) ?_
      exact ee_zret rfl dHeadReader_keepSegment_90
    · refine ee_aload_n 0 dHeadReader_keepSegment_60 rfl ?_
      refine ee_iload_n 1 dHeadReader_keepSegment_61 rfl ?_
      refine ee_iload_n 3 dHeadReader_keepSegment_62 rfl ?_
      refine ee_bind (fun _ ho63 => ?_)
      refine ee_callV (as := [.int l1, .int l3]) (st := []) dHeadReader_keepSegment_63 (t_fHeadReader_keepStyleForAll l0 l1 l3 w7) my_fHeadReader_keepStyleForAll.1 (Nat.le_of_ble_eq_true rfl) my_fHeadReader_keepStyleForAll.2 rfl cf_3.1 rfl (p_obj_eq.mp ho63) gw_646 gw_647 gw_648 ⟨Nat.le_of_ble_eq_true rfl, Nat.le_of_ble_eq_true rfl⟩ (Nat.le_of_ble_eq_true rfl) (fun rv63 w63 _ => ?_)
      refine ee_kI (fun v63 => ?_)
      refine ee_if_eq (tgt := 89) dHeadReader_keepSegment_66 (by decide) (fun h66 => ?_) (fun h66 => ?_)
      · refine ee_iconst (v := (0 : Int32)) dHeadReader_keepSegment_89 (by decide) ?_
        exact ee_zret rfl dHeadReader_keepSegment_90
      · refine ee_aload_n 0 dHeadReader_keepSegment_69 rfl ?_
        refine ee_iload_n 1 dHeadReader_keepSegment_70 rfl ?_
        refine ee_bipush (v := (8 : Int32)) dHeadReader_keepSegment_71 (by decide) ?_
        refine ee_iadd dHeadReader_keepSegment_73 ?_
        refine ee_iload_n 3 dHeadReader_keepSegment_74 rfl ?_
        refine ee_iconst (v := (-1 : Int32)) dHeadReader_keepSegment_75 (by decide) ?_
        refine ee_callS (as := [.int l3, .int (-1 : Int32)]) (st := [.int (l1 + (8 : Int32)), .ref l0]) dHeadReader_keepSegment_76 (t_fSettings_slotOf l3 (-1 : Int32) w63) my_fSettings_slotOf.1 (Nat.le_of_ble_eq_true rfl) my_fSettings_slotOf.2 rfl gw_650 gw_426 ⟨Nat.le_of_ble_eq_true rfl, Nat.le_of_ble_eq_true rfl⟩ (Nat.le_of_ble_eq_true rfl) (fun rv76 w76 _ => ?_)
        refine ee_kI (fun v76 => ?_)
        refine ee_bind (fun _ ho79 => ?_)
        refine ee_callV (as := [.int (l1 + (8 : Int32)), .int v76]) (st := []) dHeadReader_keepSegment_79 (t_fHeadReader_keepStyle l0 (l1 + (8 : Int32)) v76 w76) my_fHeadReader_keepStyle.1 (Nat.le_of_ble_eq_true rfl) my_fHeadReader_keepStyle.2 rfl cf_3.1 rfl (p_obj_eq.mp ho79) gw_652 gw_653 gw_654 ⟨Nat.le_of_ble_eq_true rfl, Nat.le_of_ble_eq_true rfl⟩ (Nat.le_of_ble_eq_true rfl) (fun rv79 w79 _ => ?_)
        refine ee_kI (fun v79 => ?_)
        refine ee_if_eq (tgt := 89) dHeadReader_keepSegment_82 (by decide) (fun h82 => ?_) (fun h82 => ?_)
        · refine ee_iconst (v := (0 : Int32)) dHeadReader_keepSegment_89 (by decide) ?_
          exact ee_zret rfl dHeadReader_keepSegment_90
        · refine ee_iconst (v := (1 : Int32)) dHeadReader_keepSegment_85 (by decide) ?_
          refine ee_goto (tgt := 90) dHeadReader_keepSegment_86 (by decide) ?_
          exact ee_zret rfl dHeadReader_keepSegment_90
  · skip
    refine ee_ite (fun h10_83 => ?_) (fun h10_83 => ?_)
    · refine ee_look (tgt := 91) (off := 81) dHeadReader_keepSegment_10 (by decide) (by rw [h10_83] <;> rfl) (by decide) ?_
      refine ee_iload_n 2 dHeadReader_keepSegment_91 rfl ?_
      refine ee_iload_n 1 dHeadReader_keepSegment_92 rfl ?_
      refine ee_isub dHeadReader_keepSegment_93 ?_
      refine ee_bipush (v := (11 : Int32)) dHeadReader_keepSegment_94 (by decide) ?_
      refine ee_icmp_ne (tgt := 147) dHeadReader_keepSegment_96 (by decide) (fun h96 => ?_) (fun h96 => ?_)
      · refine ee_iconst (v := (0 : Int32)) dHeadReader_keepSegment_147 (by decide) ?_
        exact ee_zret rfl dHeadReader_keepSegment_148
      · refine ee_aload_n 0 dHeadReader_keepSegment_99 rfl ?_
        refine ee_getR dHeadReader_keepSegment_100 lfHeadReader_19 (fun v100 _ => ?_)
        refine ee_aload_n 0 dHeadReader_keepSegment_103 rfl ?_
        refine ee_getR dHeadReader_keepSegment_104 lfHeadReader_15 (fun v104 _ => ?_)
        refine ee_iload_n 1 dHeadReader_keepSegment_107 rfl ?_
        refine ee_iconst (v := (4 : Int32)) dHeadReader_keepSegment_108 (by decide) ?_
        refine ee_iadd dHeadReader_keepSegment_109 ?_
        refine ee_bind (fun _ ho110 => ?_)
        refine ee_callV (as := [.int (l1 + (4 : Int32))]) (st := [.ref v100]) dHeadReader_keepSegment_110 (t_fBytes_get v104 (l1 + (4 : Int32)) w7) my_fBytes_get.1 (Nat.le_of_ble_eq_true rfl) my_fBytes_get.2 rfl cf_2.1 rfl (p_obj_eq.mp ho110) gw_593 gw_459 gw_460 ⟨Nat.le_of_ble_eq_true rfl, Nat.le_of_ble_eq_true rfl⟩ (Nat.le_of_ble_eq_true rfl) (fun rv110 w110 _ => ?_)
        refine ee_kI (fun v110 => ?_)
        refine ee_bind (fun _ ho113 => ?_)
        refine ee_callV (as := [.int v110]) (st := []) dHeadReader_keepSegment_113 (t_fSettings_isComponent v100 v110 w110) my_fSettings_isComponent.1 (Nat.le_of_ble_eq_true rfl) my_fSettings_isComponent.2 rfl cf_7.1 rfl (p_obj_eq.mp ho113) gw_656 gw_657 gw_658 ⟨Nat.le_of_ble_eq_true rfl, Nat.le_of_ble_eq_true rfl⟩ (Nat.le_of_ble_eq_true rfl) (fun rv113 w113 _ => ?_)
        refine ee_kI (fun v113 => ?_)
        refine ee_if_eq (tgt := 147) dHeadReader_keepSegment_116 (by decide) (fun h116 => ?_) (fun h116 => ?_)
        · refine ee_iconst (v := (0 : Int32)) dHeadReader_keepSegment_147 (by decide) ?_
          exact ee_zret rfl dHeadReader_keepSegment_148
        · refine ee_aload_n 0 dHeadReader_keepSegment_119 rfl ?_
          refine ee_iload_n 1 dHeadReader_keepSegment_120 rfl ?_
          refine ee_iconst (v := (5 : Int32)) dHeadReader_keepSegment_121 (by decide) ?_
          refine ee_iadd dHeadReader_keepSegment_122 ?_
          refine ee_iload_n 3 dHeadReader_keepSegment_123 rfl ?_
          refine ee_aload_n 0 dHeadReader_keepSegment_124 rfl ?_
          refine ee_getR dHeadReader_keepSegment_125 lfHeadReader_15 (fun v125 _ => ?_)
          refine ee_iload_n 1 dHeadReader_keepSegment_128 rfl ?_
          refine ee_iconst (v := (4 : Int32)) dHeadReader_keepSegment_129 (by decide) ?_
          refine ee_iadd dHeadReader_keepSegment_130 ?_
          refine ee_bind (fun _ ho131 => ?_)
          refine ee_callV (as := [.int (l1 + (4 : Int32))]) (st := [.int l3, .int (l1 + (5 : Int32)), .ref l0]) dHeadReader_keepSegment_131 (t_fBytes_get v125 (l1 + (4 : Int32)) w113) my_fBytes_get.1 (Nat.le_of_ble_eq_true rfl) my_fBytes_get.2 rfl cf_2.1 rfl (p_obj_eq.mp ho131) gw_593 gw_459 gw_460 ⟨Nat.le_of_ble_eq_true rfl, Nat.le_of_ble_eq_true rfl⟩ (Nat.le_of_ble_eq_true rfl) (fun rv131 w131 _ => ?_)
          refine ee_kI (fun v131 => ?_)
          refine ee_callS (as := [.int l3, .int v131]) (st := [.int (l1 + (5 : Int32)), .ref l0]) dHeadReader_keepSegment_134 (t_fSettings_slotOf l3 v131 w131) my_fSettings_slotOf.1 (Nat.le_of_ble_eq_true rfl) my_fSettings_slotOf.2 rfl gw_650 gw_426 ⟨Nat.le_of_ble_eq_true rfl, Nat.le_of_ble_eq_true rfl⟩ (Nat.le_of_ble_eq_true rfl) (fun rv134 w134 _ => ?_)
          refine ee_kI (fun v134 => ?_)
          refine ee_bind (fun _ ho137 => ?_)
          refine ee_callV (as := [.int (l1 + (5 : Int32)), .int v134]) (st := []) dHeadReader_keepSegment_137 (t_fHeadReader_keepStyle l0 (l1 + (5 : Int32)) v134 w134) my_fHeadReader_keepStyle.1 (Nat.le_of_ble_eq_true rfl) my_fHeadReader_keepStyle.2 rfl cf_3.1 rfl (p_obj_eq.mp ho137) gw_652 gw_653 gw_654 ⟨Nat.le_of_ble_eq_true rfl, Nat.le_of_ble_eq_true rfl⟩ (Nat.le_of_ble_eq_true rfl) (fun rv137 w137 _ => ?_)
          refine ee_kI (fun v137 => ?_)
          refine ee_if_eq (tgt := 147) dHeadReader_keepSegment_140 (by decide) (fun h140 => ?_) (fun h140 => ?_)
          · refine ee_iconst (v := (0 : Int32)) dHeadReader_keepSegment_147 (by decide) ?_
            exact ee_zret rfl dHeadReader_keepSegment_148
          · refine ee_iconst (v := (1 : Int32)) dHeadReader_keepSegment_143 (by decide) ?_
            refine ee_goto (tgt := 148) dHeadReader_keepSegment_144 (by decide) ?_
            exact ee_zret rfl dHeadReader_keepSegment_148
    · skip
      refine ee_ite (fun h10_92 => ?_) (fun h10_92 => ?_)
      · refine ee_look (tgt := 149) (off := 139) dHeadReader_keepSegment_10 (by decide) (by rw [h10_92] <;> rfl) (by decide) ?_
        refine ee_iload_n 2 dHeadReader_keepSegment_149 rfl ?_
        refine ee_iload_n 1 dHeadReader_keepSegment_150 rfl ?_
        refine ee_isub dHeadReader_keepSegment_151 ?_
        refine ee_bipush (v := (7 : Int32)) dHeadReader_keepSegment_152 (by decide) ?_
        refine ee_icmp_ne (tgt := 176) dHeadReader_keepSegment_154 (by decide) (fun h154 => ?_) (fun h154 => ?_)
        · refine ee_iconst (v := (0 : Int32)) dHeadReader_keepSegment_176 (by decide) ?_
          exact ee_zret rfl dHeadReader_keepSegment_177
        · refine ee_aload_n 0 dHeadReader_keepSegment_157 rfl ?_
          refine ee_iload_n 1 dHeadReader_keepSegment_158 rfl ?_
          refine ee_iconst (v := (4 : Int32)) dHeadReader_keepSegment_159 (by decide) ?_
          refine ee_iadd dHeadReader_keepSegment_160 ?_
          refine ee_iload_n 3 dHeadReader_keepSegment_161 rfl ?_
          refine ee_iconst (v := (-1 : Int32)) dHeadReader_keepSegment_162 (by decide) ?_
          refine ee_callS (as := [.int l3, .int (-1 : Int32)]) (st := [.int (l1 + (4 : Int32)), .ref l0]) dHeadReader_keepSegment_163 (t_fSettings_slotOf l3 (-1 : Int32) w7) my_fSettings_slotOf.1 (Nat.le_of_ble_eq_true rfl) my_fSettings_slotOf.2 rfl gw_650 gw_426 ⟨Nat.le_of_ble_eq_true rfl, Nat.le_of_ble_eq_true rfl⟩ (Nat.le_of_ble_eq_true rfl) (fun rv163 w163 _ => ?_)
          refine ee_kI (fun v163 => ?_)
          refine ee_bind (fun _ ho166 => ?_)
          refine ee_callV (as := [.int (l1 + (4 : Int32)), .int v163]) (st := []) dHeadReader_keepSegment_166 (t_fHeadReader_keepStep l0 (l1 + (4 : Int32)) v163 w163) my_fHeadReader_keepStep.1 (Nat.le_of_ble_eq_true rfl) my_fHeadReader_keepStep.2 rfl cf_3.1 rfl (p_obj_eq.mp ho166) gw_660 gw_661 gw_662 ⟨Nat.le_of_ble_eq_true rfl, Nat.le_of_ble_eq_true rfl⟩ (Nat.le_of_ble_eq_true rfl) (fun rv166 w166 _ => ?_)
          refine ee_kI (fun v166 => ?_)
          refine ee_if_eq (tgt := 176) dHeadReader_keepSegment_169 (by decide) (fun h169 => ?_) (fun h169 => ?_)
          · refine ee_iconst (v := (0 : Int32)) dHeadReader_keepSegment_176 (by decide) ?_
            exact ee_zret rfl dHeadReader_keepSegment_177
          · refine ee_iconst (v := (1 : Int32)) dHeadReader_keepSegment_172 (by decide) ?_
            refine ee_goto (tgt := 177) dHeadReader_keepSegment_173 (by decide) ?_
            exact ee_zret rfl dHeadReader_keepSegment_177
      · skip
        refine ee_ite (fun h10_93 => ?_) (fun h10_93 => ?_)
        · refine ee_look (tgt := 178) (off := 168) dHeadReader_keepSegment_10 (by decide) (by rw [h10_93] <;> rfl) (by decide) ?_
          refine ee_iload_n 2 dHeadReader_keepSegment_178 rfl ?_
          refine ee_iload_n 1 dHeadReader_keepSegment_179 rfl ?_
          refine ee_isub dHeadReader_keepSegment_180 ?_
          refine ee_bipush (v := (8 : Int32)) dHeadReader_keepSegment_181 (by decide) ?_
          refine ee_icmp_ne (tgt := 234) dHeadReader_keepSegment_183 (by decide) (fun h183 => ?_) (fun h183 => ?_)
          · refine ee_iconst (v := (0 : Int32)) dHeadReader_keepSegment_234 (by decide) ?_
            exact ee_zret rfl dHeadReader_keepSegment_235
          · refine ee_aload_n 0 dHeadReader_keepSegment_186 rfl ?_
            refine ee_getR dHeadReader_keepSegment_187 lfHeadReader_19 (fun v187 _ => ?_)
            refine ee_aload_n 0 dHeadReader_keepSegment_190 rfl ?_
            refine ee_getR dHeadReader_keepSegment_191 lfHeadReader_15 (fun v191 _ => ?_)
            refine ee_iload_n 1 dHeadReader_keepSegment_194 rfl ?_
            refine ee_iconst (v := (4 : Int32)) dHeadReader_keepSegment_195 (by decide) ?_
            refine ee_iadd dHeadReader_keepSegment_196 ?_
            refine ee_bind (fun _ ho197 => ?_)
            refine ee_callV (as := [.int (l1 + (4 : Int32))]) (st := [.ref v187]) dHeadReader_keepSegment_197 (t_fBytes_get v191 (l1 + (4 : Int32)) w7) my_fBytes_get.1 (Nat.le_of_ble_eq_true rfl) my_fBytes_get.2 rfl cf_2.1 rfl (p_obj_eq.mp ho197) gw_593 gw_459 gw_460 ⟨Nat.le_of_ble_eq_true rfl, Nat.le_of_ble_eq_true rfl⟩ (Nat.le_of_ble_eq_true rfl) (fun rv197 w197 _ => ?_)
            refine ee_kI (fun v197 => ?_)
            refine ee_bind (fun _ ho200 => ?_)
            refine ee_callV (as := [.int v197]) (st := []) dHeadReader_keepSegment_200 (t_fSettings_isComponent v187 v197 w197) my_fSettings_isComponent.1 (Nat.le_of_ble_eq_true rfl) my_fSettings_isComponent.2 rfl cf_7.1 rfl (p_obj_eq.mp ho200) gw_656 gw_657 gw_658 ⟨Nat.le_of_ble_eq_true rfl, Nat.le_of_ble_eq_true rfl⟩ (Nat.le_of_ble_eq_true rfl) (fun rv200 w200 _ => ?_)
            refine ee_kI (fun v200 => ?_)
            refine ee_if_eq (tgt := 234) dHeadReader_keepSegment_203 (by decide) (fun h203 => ?_) (fun h203 => ?_)
            · refine ee_iconst (v := (0 : Int32)) dHeadReader_keepSegment_234 (by decide) ?_
              exact ee_zret rfl dHeadReader_keepSegment_235
            · refine ee_aload_n 0 dHeadReader_keepSegment_206 rfl ?_
              refine ee_iload_n 1 dHeadReader_keepSegment_207 rfl ?_
              refine ee_iconst (v := (5 : Int32)) dHeadReader_keepSegment_208 (by decide) ?_
              refine ee_iadd dHeadReader_keepSegment_209 ?_
              refine ee_iload_n 3 dHeadReader_keepSegment_210 rfl ?_
              refine ee_aload_n 0 dHeadReader_keepSegment_211 rfl ?_
              refine ee_getR dHeadReader_keepSegment_212 lfHeadReader_15 (fun v212 _ => ?_)
              refine ee_iload_n 1 dHeadReader_keepSegment_215 rfl ?_
              refine ee_iconst (v := (4 : Int32)) dHeadReader_keepSegment_216 (by decide) ?_
              refine ee_iadd dHeadReader_keepSegment_217 ?_
              refine ee_bind (fun _ ho218 => ?_)
              refine ee_callV (as := [.int (l1 + (4 : Int32))]) (st := [.int l3, .int (l1 + (5 : Int32)), .ref l0]) dHeadReader_keepSegment_218 (t_fBytes_get v212 (l1 + (4 : Int32)) w200) my_fBytes_get.1 (Nat.le_of_ble_eq_true rfl) my_fBytes_get.2 rfl cf_2.1 rfl (p_obj_eq.mp ho218) gw_593 gw_459 gw_460 ⟨Nat.le_of_ble_eq_true rfl, Nat.le_of_ble_eq_true rfl⟩ (Nat.le_of_ble_eq_true rfl) (fun rv218 w218 _ => ?_)
              refine ee_kI (fun v218 => ?_)
              refine ee_callS (as := [.int l3, .int v218]) (st := [.int (l1 + (5 : Int32)), .ref l0]) dHeadReader_keepSegment_221 (t_fSettings_slotOf l3 v218 w218) my_fSettings_slotOf.1 (Nat.le_of_ble_eq_true rfl) my_fSettings_slotOf.2 rfl gw_650 gw_426 ⟨Nat.le_of_ble_eq_true rfl, Nat.le_of_ble_eq_true rfl⟩ (Nat.le_of_ble_eq_true rfl) (fun rv221 w221 _ => ?_)
              refine ee_kI (fun v221 => ?_)
              refine ee_bind (fun _ ho224 => ?_)
              refine ee_callV (as := [.int (l1 + (5 : Int32)), .int v221]) (st := []) dHeadReader_keepSegment_224 (t_fHeadReader_keepStep l0 (l1 + (5 : Int32)) v221 w221) my_fHeadReader_keepStep.1 (Nat.le_of_ble_eq_true rfl) my_fHeadReader_keepStep.2 rfl cf_3.1 rfl (p_obj_eq.mp ho224) gw_660 gw_661 gw_662 ⟨Nat.le_of_ble_eq_true rfl, Nat.le_of_ble_eq_true rfl⟩ (Nat.le_of_ble_eq_true rfl) (fun rv224 w224 _ => ?_)
              refine ee_kI (fun v224 => ?_)
              refine ee_if_eq (tgt := 234) dHeadReader_keepSegment_227 (by decide) (fun h227 => ?_) (fun h227 => ?_)
              · refine ee_iconst (v := (0 : Int32)) dHeadReader_keepSegment_234 (by decide) ?_
                exact ee_zret rfl dHeadReader_keepSegment_235
              · refine ee_iconst (v := (1 : Int32)) dHeadReader_keepSegment_230 (by decide) ?_
                refine ee_goto (tgt := 235) dHeadReader_keepSegment_231 (by decide) ?_
                exact ee_zret rfl dHeadReader_keepSegment_235
        · skip
          refine ee_look (tgt := 236) (off := 226) dHeadReader_keepSegment_10 (by decide) (by have e0 : ¬ Int32.toInt v7 = (82 : Int) := fun h => h10_82 (Int32.toInt_inj.mp (h.trans (show (82 : Int) = (82 : Int32).toInt by decide))); have e1 : ¬ Int32.toInt v7 = (83 : Int) := fun h => h10_83 (Int32.toInt_inj.mp (h.trans (show (83 : Int) = (83 : Int32).toInt by decide))); have e2 : ¬ Int32.toInt v7 = (92 : Int) := fun h => h10_92 (Int32.toInt_inj.mp (h.trans (show (92 : Int) = (92 : Int32).toInt by decide))); have e3 : ¬ Int32.toInt v7 = (93 : Int) := fun h => h10_93 (Int32.toInt_inj.mp (h.trans (show (93 : Int) = (93 : Int32).toInt by decide))); simp [Op.lookupswitch.offset, e0, Ne.symm e0, e1, Ne.symm e1, e2, Ne.symm e2, e3, Ne.symm e3]) (by decide) ?_
          refine ee_iconst (v := (1 : Int32)) dHeadReader_keepSegment_236 (by decide) ?_
          exact ee_zret rfl dHeadReader_keepSegment_237
def fHeadReader_readHead_96 (l0 : Nat) (l3 : Int32) (w : PW) : PX := (p_put w l0 3 2 (.int l3)).bind fun w98 => (p_getR w98 l0 3 1).bind fun v102 => (p_obj w98 v102 7).bind fun _ => p_call (fSettings_hasStyleAndStepForAll v102 w98) <| p_kI fun v105 w105 => if v105 = 0 then (some (.inl (some (.int l3)), w105)) else (some (.inl (some (.int (-1 : Int32))), w105))
set_option maxRecDepth 20000 in
set_option maxHeartbeats 2000000 in
theorem t_fHeadReader_readHead_96 {Γ : PG} : ∀ (l0 : Nat) (l3 : Int32) (w : PW), EE Γ MHeadReader_readHead 96 [(0, .ref l0), (3, .int l3)] [] w (fHeadReader_readHead_96 l0 l3 w) := by
  intro l0 l3 w
  unfold fHeadReader_readHead_96
  refine ee_aload_n 0 dHeadReader_readHead_96 rfl ?_
  refine ee_iload_n 1 dHeadReader_readHead_97 rfl ?_
  refine ee_put dHeadReader_readHead_98 lpHeadReader_9 (ee_nI _) (fun w98 _ => ?_)
  refine ee_aload_n 0 dHeadReader_readHead_101 rfl ?_
  refine ee_getR dHeadReader_readHead_102 lfHeadReader_19 (fun v102 _ => ?_)
  refine ee_bind (fun _ ho105 => ?_)
  refine ee_callV (as := []) (st := []) dHeadReader_readHead_105 (t_fSettings_hasStyleAndStepForAll v102 w98) my_fSettings_hasStyleAndStepForAll.1 (Nat.le_of_ble_eq_true rfl) my_fSettings_hasStyleAndStepForAll.2 rfl cf_7.1 rfl (p_obj_eq.mp ho105) gw_638 gw_639 gw_640 ⟨Nat.le_of_ble_eq_true rfl, Nat.le_of_ble_eq_true rfl⟩ (Nat.le_of_ble_eq_true rfl) (fun rv105 w105 _ => ?_)
  refine ee_kI (fun v105 => ?_)
  refine ee_if_eq (tgt := 115) dHeadReader_readHead_108 (by decide) (fun h108 => ?_) (fun h108 => ?_)
  · refine ee_iload_n 1 dHeadReader_readHead_115 rfl ?_
    exact ee_iret rfl dHeadReader_readHead_116
  · refine ee_iconst (v := (-1 : Int32)) dHeadReader_readHead_111 (by decide) ?_
    refine ee_goto (tgt := 116) dHeadReader_readHead_112 (by decide) ?_
    exact ee_iret rfl dHeadReader_readHead_116
def fHeadReader_readHead_61 : Nat → Nat → Int32 → Int32 → Int32 → Int32 → PW → PX
  | 0, _, _, _, _, _, _ => none
  | n9 + 1, l0, l2, l3, l4, l5, w => if (20000 : Int32) ≤ l5 then (some (.inl (some (.int l3)), w)) else ((p_obj w l0 3).bind fun _ => p_call (fHeadReader_isCode l0 l4 l2 (144 : Int32) w) <| p_kI fun v78 w78 => if ¬ v78 = 0 then (fHeadReader_readHead_96 l0 l4 w78) else ((p_obj w78 l0 3).bind fun _ => p_call (fHeadReader_isCode l0 l4 l2 (217 : Int32) w78) <| p_kI fun v90 w90 => if v90 = 0 then ((p_obj w90 l0 3).bind fun _ => p_call (fHeadReader_segmentEnd l0 l4 l2 w90) <| p_kI fun v120 w120 => if v120 = (-1 : Int32) then (some (.inl (some (.int l4)), w120)) else ((p_obj w120 l0 3).bind fun _ => p_call (fHeadReader_keepSegment l0 l4 v120 (-1 : Int32) w120) <| p_kI fun v136 w136 => if ¬ v136 = 0 then (p_let (l5 + (1 : Int32)) fun (l5_144 : Int32) => (fHeadReader_readHead_61 n9) l0 l2 l4 v120 l5_144 w136) else (some (.inl (some (.int l4)), w136)))) else (fHeadReader_readHead_96 l0 l4 w90)))
set_option maxRecDepth 20000 in
set_option maxHeartbeats 2000000 in
theorem t_fHeadReader_readHead_61 {Γ : PG} : ∀ (n9 : Nat) (l0 : Nat) (l2 : Int32) (l3 : Int32) (l4 : Int32) (l5 : Int32) (w : PW), EE Γ MHeadReader_readHead 61 [(0, .ref l0), (2, .int l2), (3, .int l3), (4, .int l4), (5, .int l5)] [] w (fHeadReader_readHead_61 n9 l0 l2 l3 l4 l5 w) := by
  intro n9
  induction n9 with
  | zero => intro l0 l2 l3 l4 l5 w; exact ee_none
  | succ n9 ih =>
    intro l0 l2 l3 l4 l5 w
    unfold fHeadReader_readHead_61
    refine ee_iload 4 dHeadReader_readHead_61 rfl ?_
    refine ee_sipush (v := (20000 : Int32)) dHeadReader_readHead_63 (by decide) ?_
    refine ee_icmp_ge (tgt := 150) dHeadReader_readHead_66 (by decide) (fun h66 => ?_) (fun h66 => ?_)
    · refine ee_iload_n 2 dHeadReader_readHead_150 rfl ?_
      exact ee_iret rfl dHeadReader_readHead_151
    · refine ee_iload 3 dHeadReader_readHead_69 rfl ?_
      refine ee_istore_n (lv2 := [(3, .int l4), (0, .ref l0), (2, .int l2), (4, .int l4), (5, .int l5)]) dHeadReader_readHead_71 (Nat.le_of_ble_eq_true rfl) rfl ?_
      refine ee_aload_n 1 dHeadReader_readHead_72 rfl ?_
      refine ee_iload_n 0 dHeadReader_readHead_73 rfl ?_
      refine ee_iload_n 2 dHeadReader_readHead_74 rfl ?_
      refine ee_sipush (v := (144 : Int32)) dHeadReader_readHead_75 (by decide) ?_
      refine ee_bind (fun _ ho78 => ?_)
      refine ee_callV (as := [.int l4, .int l2, .int (144 : Int32)]) (st := []) dHeadReader_readHead_78 (t_fHeadReader_isCode l0 l4 l2 (144 : Int32) w) my_fHeadReader_isCode.1 (Nat.le_of_ble_eq_true rfl) my_fHeadReader_isCode.2 rfl cf_3.1 rfl (p_obj_eq.mp ho78) gw_589 gw_590 gw_591 ⟨Nat.le_of_ble_eq_true rfl, Nat.le_of_ble_eq_true rfl⟩ (Nat.le_of_ble_eq_true rfl) (fun rv78 w78 _ => ?_)
      refine ee_kI (fun v78 => ?_)
      refine ee_if_ne (tgt := 96) dHeadReader_readHead_81 (by decide) (fun h81 => ?_) (fun h81 => ?_)
      · refine ee_pick [1, 0] rfl ?_
        exact t_fHeadReader_readHead_96 _ _ w78
      · refine ee_aload_n 1 dHeadReader_readHead_84 rfl ?_
        refine ee_iload_n 0 dHeadReader_readHead_85 rfl ?_
        refine ee_iload_n 2 dHeadReader_readHead_86 rfl ?_
        refine ee_sipush (v := (217 : Int32)) dHeadReader_readHead_87 (by decide) ?_
        refine ee_bind (fun _ ho90 => ?_)
        refine ee_callV (as := [.int l4, .int l2, .int (217 : Int32)]) (st := []) dHeadReader_readHead_90 (t_fHeadReader_isCode l0 l4 l2 (217 : Int32) w78) my_fHeadReader_isCode.1 (Nat.le_of_ble_eq_true rfl) my_fHeadReader_isCode.2 rfl cf_3.1 rfl (p_obj_eq.mp ho90) gw_589 gw_590 gw_591 ⟨Nat.le_of_ble_eq_true rfl, Nat.le_of_ble_eq_true rfl⟩ (Nat.le_of_ble_eq_true rfl) (fun rv90 w90 _ => ?_)
        refine ee_kI (fun v90 => ?_)
        refine ee_if_eq (tgt := 117) dHeadReader_readHead_93 (by decide) (fun h93 => ?_) (fun h93 => ?_)
        · refine ee_aload_n 1 dHeadReader_readHead_117 rfl ?_
          refine ee_iload_n 0 dHeadReader_readHead_118 rfl ?_
          refine ee_iload_n 2 dHeadReader_readHead_119 rfl ?_
          refine ee_bind (fun _ ho120 => ?_)
          refine ee_callV (as := [.int l4, .int l2]) (st := []) dHeadReader_readHead_120 (t_fHeadReader_segmentEnd l0 l4 l2 w90) my_fHeadReader_segmentEnd.1 (Nat.le_of_ble_eq_true rfl) my_fHeadReader_segmentEnd.2 rfl cf_3.1 rfl (p_obj_eq.mp ho120) gw_594 gw_595 gw_596 ⟨Nat.le_of_ble_eq_true rfl, Nat.le_of_ble_eq_true rfl⟩ (Nat.le_of_ble_eq_true rfl) (fun rv120 w120 _ => ?_)
          refine ee_kI (fun v120 => ?_)
          refine ee_istore (lv2 := [(4, .int v120), (3, .int l4), (0, .ref l0), (2, .int l2), (5, .int l5)]) dHeadReader_readHead_123 (Nat.le_of_ble_eq_true rfl) rfl ?_
          refine ee_iload 0 dHeadReader_readHead_125 rfl ?_
          refine ee_iconst (v := (-1 : Int32)) dHeadReader_readHead_127 (by decide) ?_
          refine ee_icmp_eq (tgt := 142) dHeadReader_readHead_128 (by decide) (fun h128 => ?_) (fun h128 => ?_)
          · refine ee_iload_n 1 dHeadReader_readHead_142 rfl ?_
            exact ee_iret rfl dHeadReader_readHead_143
          · refine ee_aload_n 2 dHeadReader_readHead_131 rfl ?_
            refine ee_iload_n 1 dHeadReader_readHead_132 rfl ?_
            refine ee_iload 0 dHeadReader_readHead_133 rfl ?_
            refine ee_iconst (v := (-1 : Int32)) dHeadReader_readHead_135 (by decide) ?_
            refine ee_bind (fun _ ho136 => ?_)
            refine ee_callV (as := [.int l4, .int v120, .int (-1 : Int32)]) (st := []) dHeadReader_readHead_136 (t_fHeadReader_keepSegment l0 l4 v120 (-1 : Int32) w120) my_fHeadReader_keepSegment.1 (Nat.le_of_ble_eq_true rfl) my_fHeadReader_keepSegment.2 rfl cf_3.1 rfl (p_obj_eq.mp ho136) gw_642 gw_643 gw_644 ⟨Nat.le_of_ble_eq_true rfl, Nat.le_of_ble_eq_true rfl⟩ (Nat.le_of_ble_eq_true rfl) (fun rv136 w136 _ => ?_)
            refine ee_kI (fun v136 => ?_)
            refine ee_if_ne (tgt := 144) dHeadReader_readHead_139 (by decide) (fun h139 => ?_) (fun h139 => ?_)
            · refine ee_iinc 4 dHeadReader_readHead_144 rfl (e := (1 : Int32)) (by decide) (Nat.le_of_ble_eq_true rfl) (fun l5_144 _ => ?_)
              refine ee_lv (lv2 := [(5, .int l5_144), (4, .int v120), (3, .int l4), (0, .ref l0), (2, .int l2)]) rfl ?_
              refine ee_goto (tgt := 61) dHeadReader_readHead_147 (by decide) ?_
              refine ee_pick [3, 4, 2, 1, 0] rfl ?_
              exact ih _ _ _ _ _ w136
            · refine ee_iload_n 1 dHeadReader_readHead_142 rfl ?_
              exact ee_iret rfl dHeadReader_readHead_143
        · refine ee_pick [1, 0] rfl ?_
          exact t_fHeadReader_readHead_96 _ _ w90
def fHeadReader_readHead_38 (l0 : Nat) (l2 : Int32) (l3 : Int32) (s0 : Int32) (w : PW) : PX := if s0 = (-1 : Int32) then (some (.inl (some (.int l3)), w)) else ((p_obj w l0 3).bind fun _ => p_call (fHeadReader_keepSizes l0 l3 s0 w) <| p_kI fun v50 w50 => if ¬ v50 = 0 then (fHeadReader_readHead_61 FUEL l0 l2 l3 s0 (0 : Int32) w50) else (some (.inl (some (.int l3)), w50)))
set_option maxRecDepth 20000 in
set_option maxHeartbeats 2000000 in
theorem t_fHeadReader_readHead_38 {Γ : PG} : ∀ (l0 : Nat) (l2 : Int32) (l3 : Int32) (s0 : Int32) (w : PW), EE Γ MHeadReader_readHead 38 [(0, .ref l0), (2, .int l2), (3, .int l3)] [.int s0] w (fHeadReader_readHead_38 l0 l2 l3 s0 w) := by
  intro l0 l2 l3 s0 w
  unfold fHeadReader_readHead_38
  refine ee_istore (lv2 := [(4, .int s0), (0, .ref l0), (2, .int l2), (3, .int l3)]) dHeadReader_readHead_38 (Nat.le_of_ble_eq_true rfl) rfl ?_
  refine ee_iload 0 dHeadReader_readHead_40 rfl ?_
  refine ee_iconst (v := (-1 : Int32)) dHeadReader_readHead_42 (by decide) ?_
  refine ee_icmp_eq (tgt := 56) dHeadReader_readHead_43 (by decide) (fun h43 => ?_) (fun h43 => ?_)
  · refine ee_iload_n 3 dHeadReader_readHead_56 rfl ?_
    exact ee_iret rfl dHeadReader_readHead_57
  · refine ee_aload_n 1 dHeadReader_readHead_46 rfl ?_
    refine ee_iload_n 3 dHeadReader_readHead_47 rfl ?_
    refine ee_iload 0 dHeadReader_readHead_48 rfl ?_
    refine ee_bind (fun _ ho50 => ?_)
    refine ee_callV (as := [.int l3, .int s0]) (st := []) dHeadReader_readHead_50 (t_fHeadReader_keepSizes l0 l3 s0 w) my_fHeadReader_keepSizes.1 (Nat.le_of_ble_eq_true rfl) my_fHeadReader_keepSizes.2 rfl cf_3.1 rfl (p_obj_eq.mp ho50) gw_599 gw_600 gw_601 ⟨Nat.le_of_ble_eq_true rfl, Nat.le_of_ble_eq_true rfl⟩ (Nat.le_of_ble_eq_true rfl) (fun rv50 w50 _ => ?_)
    refine ee_kI (fun v50 => ?_)
    refine ee_if_ne (tgt := 58) dHeadReader_readHead_53 (by decide) (fun h53 => ?_) (fun h53 => ?_)
    · refine ee_iconst (v := (0 : Int32)) dHeadReader_readHead_58 (by decide) ?_
      refine ee_istore (lv2 := [(5, .int (0 : Int32)), (4, .int s0), (0, .ref l0), (2, .int l2), (3, .int l3)]) dHeadReader_readHead_59 (Nat.le_of_ble_eq_true rfl) rfl ?_
      refine ee_pick [2, 3, 4, 1, 0] rfl ?_
      exact t_fHeadReader_readHead_61 FUEL _ _ _ _ _ w50
    · refine ee_iload_n 3 dHeadReader_readHead_56 rfl ?_
      exact ee_iret rfl dHeadReader_readHead_57
def fHeadReader_readHead (l0 : Nat) (l1 : Int32) (l2 : Int32) (w : PW) : PX := (p_obj w l0 3).bind fun _ => p_call (fHeadReader_isCode l0 l1 l2 (79 : Int32) w) <| p_kI fun v5 w5 => if ¬ v5 = 0 then (p_let ((l1 + (2 : Int32))) fun (l3_16 : Int32) => (p_obj w5 l0 3).bind fun _ => p_call (fHeadReader_isCode l0 l3_16 l2 (81 : Int32) w5) <| p_kI fun v22 w22 => if v22 = 0 then (fHeadReader_readHead_38 l0 l2 l3_16 (-1 : Int32) w22) else ((p_obj w22 l0 3).bind fun _ => p_call (fHeadReader_segmentEnd l0 l3_16 l2 w22) <| p_kI fun v31 w31 => fHeadReader_readHead_38 l0 l2 l3_16 v31 w31)) else (some (.inl (some (.int l1)), w5))
set_option maxRecDepth 20000 in
set_option maxHeartbeats 2000000 in
theorem t_fHeadReader_readHead {Γ : PG} : ∀ (l0 : Nat) (l1 : Int32) (l2 : Int32) (w : PW), EE Γ MHeadReader_readHead 0 (lv_args 0 [.ref l0, .int l1, .int l2]) [] w (fHeadReader_readHead l0 l1 l2 w) := by
  intro l0 l1 l2 w
  unfold fHeadReader_readHead
  show EE Γ MHeadReader_readHead 0 [(0, .ref l0), (1, .int l1), (2, .int l2)] [] w _
  refine ee_aload_n 0 dHeadReader_readHead_0 rfl ?_
  refine ee_iload_n 1 dHeadReader_readHead_1 rfl ?_
  refine ee_iload_n 2 dHeadReader_readHead_2 rfl ?_
  refine ee_bipush (v := (79 : Int32)) dHeadReader_readHead_3 (by decide) ?_
  refine ee_bind (fun _ ho5 => ?_)
  refine ee_callV (as := [.int l1, .int l2, .int (79 : Int32)]) (st := []) dHeadReader_readHead_5 (t_fHeadReader_isCode l0 l1 l2 (79 : Int32) w) my_fHeadReader_isCode.1 (Nat.le_of_ble_eq_true rfl) my_fHeadReader_isCode.2 rfl cf_3.1 rfl (p_obj_eq.mp ho5) gw_589 gw_590 gw_591 ⟨Nat.le_of_ble_eq_true rfl, Nat.le_of_ble_eq_true rfl⟩ (Nat.le_of_ble_eq_true rfl) (fun rv5 w5 _ => ?_)
  refine ee_kI (fun v5 => ?_)
  refine ee_if_ne (tgt := 13) dHeadReader_readHead_8 (by decide) (fun h8 => ?_) (fun h8 => ?_)
  · refine ee_iload_n 1 dHeadReader_readHead_13 rfl ?_
    refine ee_iconst (v := (2 : Int32)) dHeadReader_readHead_14 (by decide) ?_
    refine ee_iadd dHeadReader_readHead_15 ?_
    refine ee_letI (fun l3_16 _ => ?_)
    refine ee_istore_n (lv2 := [(3, .int l3_16), (0, .ref l0), (1, .int l1), (2, .int l2)]) dHeadReader_readHead_16 (Nat.le_of_ble_eq_true rfl) rfl ?_
    refine ee_aload_n 1 dHeadReader_readHead_17 rfl ?_
    refine ee_iload_n 0 dHeadReader_readHead_18 rfl ?_
    refine ee_iload_n 3 dHeadReader_readHead_19 rfl ?_
    refine ee_bipush (v := (81 : Int32)) dHeadReader_readHead_20 (by decide) ?_
    refine ee_bind (fun _ ho22 => ?_)
    refine ee_callV (as := [.int l3_16, .int l2, .int (81 : Int32)]) (st := []) dHeadReader_readHead_22 (t_fHeadReader_isCode l0 l3_16 l2 (81 : Int32) w5) my_fHeadReader_isCode.1 (Nat.le_of_ble_eq_true rfl) my_fHeadReader_isCode.2 rfl cf_3.1 rfl (p_obj_eq.mp ho22) gw_589 gw_590 gw_591 ⟨Nat.le_of_ble_eq_true rfl, Nat.le_of_ble_eq_true rfl⟩ (Nat.le_of_ble_eq_true rfl) (fun rv22 w22 _ => ?_)
    refine ee_kI (fun v22 => ?_)
    refine ee_if_eq (tgt := 37) dHeadReader_readHead_25 (by decide) (fun h25 => ?_) (fun h25 => ?_)
    · refine ee_iconst (v := (-1 : Int32)) dHeadReader_readHead_37 (by decide) ?_
      refine ee_pick [1, 3, 0] rfl ?_
      exact t_fHeadReader_readHead_38 _ _ _ _ w22
    · refine ee_aload_n 1 dHeadReader_readHead_28 rfl ?_
      refine ee_iload_n 0 dHeadReader_readHead_29 rfl ?_
      refine ee_iload_n 3 dHeadReader_readHead_30 rfl ?_
      refine ee_bind (fun _ ho31 => ?_)
      refine ee_callV (as := [.int l3_16, .int l2]) (st := []) dHeadReader_readHead_31 (t_fHeadReader_segmentEnd l0 l3_16 l2 w22) my_fHeadReader_segmentEnd.1 (Nat.le_of_ble_eq_true rfl) my_fHeadReader_segmentEnd.2 rfl cf_3.1 rfl (p_obj_eq.mp ho31) gw_594 gw_595 gw_596 ⟨Nat.le_of_ble_eq_true rfl, Nat.le_of_ble_eq_true rfl⟩ (Nat.le_of_ble_eq_true rfl) (fun rv31 w31 _ => ?_)
      refine ee_kI (fun v31 => ?_)
      refine ee_goto (tgt := 38) dHeadReader_readHead_34 (by decide) ?_
      refine ee_pick [1, 3, 0] rfl ?_
      exact t_fHeadReader_readHead_38 _ _ _ _ w31
  · refine ee_iload_n 1 dHeadReader_readHead_11 rfl ?_
    exact ee_iret rfl dHeadReader_readHead_12
def fHeadReader_isSegmentCode (l0 : Int32) (w : PW) : PX := if l0 = (82 : Int32) then (p_retZ (1 : Int32) w) else (if l0 = (83 : Int32) then (p_retZ (1 : Int32) w) else (if l0 = (92 : Int32) then (p_retZ (1 : Int32) w) else (if ¬ l0 = (93 : Int32) then (p_retZ (0 : Int32) w) else (p_retZ (1 : Int32) w))))
set_option maxRecDepth 20000 in
set_option maxHeartbeats 2000000 in
theorem t_fHeadReader_isSegmentCode {Γ : PG} : ∀ (l0 : Int32) (w : PW), EE Γ MHeadReader_isSegmentCode 0 (lv_args 0 [.int l0]) [] w (fHeadReader_isSegmentCode l0 w) := by
  intro l0 w
  unfold fHeadReader_isSegmentCode
  show EE Γ MHeadReader_isSegmentCode 0 [(0, .int l0)] [] w _
  refine ee_iload_n 0 dHeadReader_isSegmentCode_0 rfl ?_
  refine ee_bipush (v := (82 : Int32)) dHeadReader_isSegmentCode_1 (by decide) ?_
  refine ee_icmp_eq (tgt := 24) dHeadReader_isSegmentCode_3 (by decide) (fun h3 => ?_) (fun h3 => ?_)
  · refine ee_iconst (v := (1 : Int32)) dHeadReader_isSegmentCode_24 (by decide) ?_
    refine ee_goto (tgt := 29) dHeadReader_isSegmentCode_25 (by decide) ?_
    exact ee_zret rfl dHeadReader_isSegmentCode_29
  · refine ee_iload_n 0 dHeadReader_isSegmentCode_6 rfl ?_
    refine ee_bipush (v := (83 : Int32)) dHeadReader_isSegmentCode_7 (by decide) ?_
    refine ee_icmp_eq (tgt := 24) dHeadReader_isSegmentCode_9 (by decide) (fun h9 => ?_) (fun h9 => ?_)
    · refine ee_iconst (v := (1 : Int32)) dHeadReader_isSegmentCode_24 (by decide) ?_
      refine ee_goto (tgt := 29) dHeadReader_isSegmentCode_25 (by decide) ?_
      exact ee_zret rfl dHeadReader_isSegmentCode_29
    · refine ee_iload_n 0 dHeadReader_isSegmentCode_12 rfl ?_
      refine ee_bipush (v := (92 : Int32)) dHeadReader_isSegmentCode_13 (by decide) ?_
      refine ee_icmp_eq (tgt := 24) dHeadReader_isSegmentCode_15 (by decide) (fun h15 => ?_) (fun h15 => ?_)
      · refine ee_iconst (v := (1 : Int32)) dHeadReader_isSegmentCode_24 (by decide) ?_
        refine ee_goto (tgt := 29) dHeadReader_isSegmentCode_25 (by decide) ?_
        exact ee_zret rfl dHeadReader_isSegmentCode_29
      · refine ee_iload_n 0 dHeadReader_isSegmentCode_18 rfl ?_
        refine ee_bipush (v := (93 : Int32)) dHeadReader_isSegmentCode_19 (by decide) ?_
        refine ee_icmp_ne (tgt := 28) dHeadReader_isSegmentCode_21 (by decide) (fun h21 => ?_) (fun h21 => ?_)
        · refine ee_iconst (v := (0 : Int32)) dHeadReader_isSegmentCode_28 (by decide) ?_
          exact ee_zret rfl dHeadReader_isSegmentCode_29
        · refine ee_iconst (v := (1 : Int32)) dHeadReader_isSegmentCode_24 (by decide) ?_
          refine ee_goto (tgt := 29) dHeadReader_isSegmentCode_25 (by decide) ?_
          exact ee_zret rfl dHeadReader_isSegmentCode_29
def fPartReader_init (l0 : Nat) (l1 : Nat) (l2 : Nat) (l3 : Nat) (w : PW) : PX := p_newA w 0 4 (300 : Int32) fun v8 w8 => (p_put w8 l0 6 3 (.ref v8)).bind fun w10 => p_newA w10 0 4 (300 : Int32) fun v17 w17 => (p_put w17 l0 6 4 (.ref v17)).bind fun w19 => p_newA w19 0 4 (300 : Int32) fun v26 w26 => (p_put w26 l0 6 5 (.ref v26)).bind fun w28 => p_newA w28 0 4 (300 : Int32) fun v35 w35 => (p_put w35 l0 6 6 (.ref v35)).bind fun w37 => p_newA w37 0 4 (300 : Int32) fun v44 w44 => (p_put w44 l0 6 7 (.ref v44)).bind fun w46 => p_newA w46 2 1 (300 : Int32) fun v53 w53 => (p_put w53 l0 6 8 (.ref v53)).bind fun w55 => p_newA w55 0 4 (24 : Int32) fun v61 w61 => (p_put w61 l0 6 9 (.ref v61)).bind fun w63 => p_newA w63 0 4 (200 : Int32) fun v70 w70 => (p_put w70 l0 6 10 (.ref v70)).bind fun w72 => (p_put w72 l0 6 11 (.int (0 : Int32))).bind fun w77 => (p_put w77 l0 6 12 (.int (0 : Int32))).bind fun w82 => (p_put w82 l0 6 0 (.ref l1)).bind fun w87 => (p_put w87 l0 6 1 (.ref l2)).bind fun w92 => (p_put w92 l0 6 2 (.ref l3)).bind fun w97 => some (.inl none, w97)
set_option maxRecDepth 20000 in
set_option maxHeartbeats 2000000 in
theorem t_fPartReader_init {Γ : PG} : ∀ (l0 : Nat) (l1 : Nat) (l2 : Nat) (l3 : Nat) (w : PW), EE Γ MPartReader_init 0 (lv_args 0 [.ref l0, .ref l1, .ref l2, .ref l3]) [] w (fPartReader_init l0 l1 l2 l3 w) := by
  intro l0 l1 l2 l3 w
  unfold fPartReader_init
  show EE Γ MPartReader_init 0 [(0, .ref l0), (1, .ref l1), (2, .ref l2), (3, .ref l3)] [] w _
  refine ee_aload_n 0 dPartReader_init_0 rfl ?_
  refine ee_objInit dPartReader_init_1 gw_252 gw_obji gw_objc ⟨Nat.le_of_ble_eq_true rfl, Nat.le_of_ble_eq_true rfl⟩ ?_
  refine ee_aload_n 0 dPartReader_init_4 rfl ?_
  refine ee_sipush (v := (300 : Int32)) dPartReader_init_5 (by decide) ?_
  refine ee_newI dPartReader_init_8 (fun v8 w8 _ _ _ => ?_)
  refine ee_put dPartReader_init_10 lpiPartReader_9 (ee_nRA _ _) (fun w10 _ => ?_)
  refine ee_aload_n 0 dPartReader_init_13 rfl ?_
  refine ee_sipush (v := (300 : Int32)) dPartReader_init_14 (by decide) ?_
  refine ee_newI dPartReader_init_17 (fun v17 w17 _ _ _ => ?_)
  refine ee_put dPartReader_init_19 lpiPartReader_15 (ee_nRA _ _) (fun w19 _ => ?_)
  refine ee_aload_n 0 dPartReader_init_22 rfl ?_
  refine ee_sipush (v := (300 : Int32)) dPartReader_init_23 (by decide) ?_
  refine ee_newI dPartReader_init_26 (fun v26 w26 _ _ _ => ?_)
  refine ee_put dPartReader_init_28 lpiPartReader_18 (ee_nRA _ _) (fun w28 _ => ?_)
  refine ee_aload_n 0 dPartReader_init_31 rfl ?_
  refine ee_sipush (v := (300 : Int32)) dPartReader_init_32 (by decide) ?_
  refine ee_newI dPartReader_init_35 (fun v35 w35 _ _ _ => ?_)
  refine ee_put dPartReader_init_37 lpiPartReader_21 (ee_nRA _ _) (fun w37 _ => ?_)
  refine ee_aload_n 0 dPartReader_init_40 rfl ?_
  refine ee_sipush (v := (300 : Int32)) dPartReader_init_41 (by decide) ?_
  refine ee_newI dPartReader_init_44 (fun v44 w44 _ _ _ => ?_)
  refine ee_put dPartReader_init_46 lpiPartReader_24 (ee_nRA _ _) (fun w46 _ => ?_)
  refine ee_aload_n 0 dPartReader_init_49 rfl ?_
  refine ee_sipush (v := (300 : Int32)) dPartReader_init_50 (by decide) ?_
  refine ee_newZ dPartReader_init_53 (fun v53 w53 _ _ _ => ?_)
  refine ee_put dPartReader_init_55 lpiPartReader_27 (ee_nRA _ _) (fun w55 _ => ?_)
  refine ee_aload_n 0 dPartReader_init_58 rfl ?_
  refine ee_bipush (v := (24 : Int32)) dPartReader_init_59 (by decide) ?_
  refine ee_newI dPartReader_init_61 (fun v61 w61 _ _ _ => ?_)
  refine ee_put dPartReader_init_63 lpiPartReader_31 (ee_nRA _ _) (fun w63 _ => ?_)
  refine ee_aload_n 0 dPartReader_init_66 rfl ?_
  refine ee_sipush (v := (200 : Int32)) dPartReader_init_67 (by decide) ?_
  refine ee_newI dPartReader_init_70 (fun v70 w70 _ _ _ => ?_)
  refine ee_put dPartReader_init_72 lpiPartReader_34 (ee_nRA _ _) (fun w72 _ => ?_)
  refine ee_aload_n 0 dPartReader_init_75 rfl ?_
  refine ee_iconst (v := (0 : Int32)) dPartReader_init_76 (by decide) ?_
  refine ee_put dPartReader_init_77 lpiPartReader_37 (ee_nI _) (fun w77 _ => ?_)
  refine ee_aload_n 0 dPartReader_init_80 rfl ?_
  refine ee_iconst (v := (0 : Int32)) dPartReader_init_81 (by decide) ?_
  refine ee_put dPartReader_init_82 lpiPartReader_41 (ee_nI _) (fun w82 _ => ?_)
  refine ee_aload_n 0 dPartReader_init_85 rfl ?_
  refine ee_aload_n 1 dPartReader_init_86 rfl ?_
  refine ee_put dPartReader_init_87 lpiPartReader_44 (ee_nR _ _) (fun w87 _ => ?_)
  refine ee_aload_n 0 dPartReader_init_90 rfl ?_
  refine ee_aload_n 2 dPartReader_init_91 rfl ?_
  refine ee_put dPartReader_init_92 lpiPartReader_48 (ee_nR _ _) (fun w92 _ => ?_)
  refine ee_aload_n 0 dPartReader_init_95 rfl ?_
  refine ee_aload_n 3 dPartReader_init_96 rfl ?_
  refine ee_put dPartReader_init_97 lpiPartReader_52 (ee_nR _ _) (fun w97 _ => ?_)
  exact ee_vret rfl dPartReader_init_100
def fPartReader_forget_7 : Nat → Nat → Int32 → PW → PX
  | 0, _, _, _ => none
  | n9 + 1, l0, l1, w => if (24 : Int32) ≤ l1 then (some (.inl none, w)) else ((p_getR w l0 6 9).bind fun v14 => (p_ast w v14 0 l1 (0 : Int32)).bind fun w19 => p_let (l1 + (1 : Int32)) fun (l1_20 : Int32) => (fPartReader_forget_7 n9) l0 l1_20 w19)
set_option maxRecDepth 20000 in
set_option maxHeartbeats 2000000 in
theorem t_fPartReader_forget_7 {Γ : PG} : ∀ (n9 : Nat) (l0 : Nat) (l1 : Int32) (w : PW), EE Γ MPartReader_forget 7 [(0, .ref l0), (1, .int l1)] [] w (fPartReader_forget_7 n9 l0 l1 w) := by
  intro n9
  induction n9 with
  | zero => intro l0 l1 w; exact ee_none
  | succ n9 ih =>
    intro l0 l1 w
    unfold fPartReader_forget_7
    refine ee_iload_n 1 dPartReader_forget_7 rfl ?_
    refine ee_bipush (v := (24 : Int32)) dPartReader_forget_8 (by decide) ?_
    refine ee_icmp_ge (tgt := 26) dPartReader_forget_10 (by decide) (fun h10 => ?_) (fun h10 => ?_)
    · exact ee_vret rfl dPartReader_forget_26
    · refine ee_aload_n 0 dPartReader_forget_13 rfl ?_
      refine ee_getR dPartReader_forget_14 lfPartReader_31 (fun v14 _ => ?_)
      refine ee_iload_n 1 dPartReader_forget_17 rfl ?_
      refine ee_iconst (v := (0 : Int32)) dPartReader_forget_18 (by decide) ?_
      refine ee_iast (t := 0) dPartReader_forget_19 rfl (fun w19 _ => ?_)
      refine ee_iinc 1 dPartReader_forget_20 rfl (e := (1 : Int32)) (by decide) (Nat.le_of_ble_eq_true rfl) (fun l1_20 _ => ?_)
      refine ee_lv (lv2 := [(1, .int l1_20), (0, .ref l0)]) rfl ?_
      refine ee_goto (tgt := 7) dPartReader_forget_23 (by decide) ?_
      refine ee_pick [1, 0] rfl ?_
      exact ih _ _ w19
def fPartReader_forget (l0 : Nat) (w : PW) : PX := (p_put w l0 6 12 (.int (0 : Int32))).bind fun w2 => fPartReader_forget_7 FUEL l0 (0 : Int32) w2
set_option maxRecDepth 20000 in
set_option maxHeartbeats 2000000 in
theorem t_fPartReader_forget {Γ : PG} : ∀ (l0 : Nat) (w : PW), EE Γ MPartReader_forget 0 (lv_args 0 [.ref l0]) [] w (fPartReader_forget l0 w) := by
  intro l0 w
  unfold fPartReader_forget
  show EE Γ MPartReader_forget 0 [(0, .ref l0)] [] w _
  refine ee_aload_n 0 dPartReader_forget_0 rfl ?_
  refine ee_iconst (v := (0 : Int32)) dPartReader_forget_1 (by decide) ?_
  refine ee_put dPartReader_forget_2 lpPartReader_41 (ee_nI _) (fun w2 _ => ?_)
  refine ee_iconst (v := (0 : Int32)) dPartReader_forget_5 (by decide) ?_
  refine ee_istore_n (lv2 := [(1, .int (0 : Int32)), (0, .ref l0)]) dPartReader_forget_6 (Nat.le_of_ble_eq_true rfl) rfl ?_
  refine ee_pick [1, 0] rfl ?_
  exact t_fPartReader_forget_7 FUEL _ _ w2
def fPartReader_numberOf (l0 : Nat) (l1 : Int32) (l2 : Int32) (w : PW) : PX := if l2 = (0 : Int32) then ((p_getR w l0 6 3).bind fun v41 => (p_ald w v41 0 l1).bind fun v45 => some (.inl (some (.int v45)), w)) else if l2 = (1 : Int32) then ((p_getR w l0 6 4).bind fun v48 => (p_ald w v48 0 l1).bind fun v52 => some (.inl (some (.int v52)), w)) else if l2 = (2 : Int32) then ((p_getR w l0 6 6).bind fun v55 => (p_ald w v55 0 l1).bind fun v59 => some (.inl (some (.int v59)), w)) else if l2 = (3 : Int32) then ((p_getR w l0 6 7).bind fun v62 => (p_ald w v62 0 l1).bind fun v66 => some (.inl (some (.int v66)), w)) else if l2 = (4 : Int32) then ((p_getR w l0 6 3).bind fun v69 => (p_ald w v69 0 l1).bind fun v73 => if ¬ v73 = (-1 : Int32) then (some (.inl (some (.int (0 : Int32))), w)) else (some (.inl (some (.int (1 : Int32))), w))) else if l2 = (5 : Int32) then ((p_getR w l0 6 8).bind fun v85 => (p_ald w v85 2 l1).bind fun v89 => if v89 = 0 then (some (.inl (some (.int (0 : Int32))), w)) else (some (.inl (some (.int (1 : Int32))), w))) else (some (.inl (some (.int (-1 : Int32))), w))
set_option maxRecDepth 20000 in
set_option maxHeartbeats 2000000 in
theorem t_fPartReader_numberOf {Γ : PG} : ∀ (l0 : Nat) (l1 : Int32) (l2 : Int32) (w : PW), EE Γ MPartReader_numberOf 0 (lv_args 0 [.ref l0, .int l1, .int l2]) [] w (fPartReader_numberOf l0 l1 l2 w) := by
  intro l0 l1 l2 w
  unfold fPartReader_numberOf
  show EE Γ MPartReader_numberOf 0 [(0, .ref l0), (1, .int l1), (2, .int l2)] [] w _
  refine ee_iload_n 2 dPartReader_numberOf_0 rfl ?_
  refine ee_ite (fun h1_0 => ?_) (fun h1_0 => ?_)
  · refine ee_tabIn (tgt := 40) dPartReader_numberOf_1 (by rw [h1_0]; decide) (by rw [h1_0]; decide) (by rw [h1_0]; rfl) (by decide) ?_
    refine ee_aload_n 0 dPartReader_numberOf_40 rfl ?_
    refine ee_getR dPartReader_numberOf_41 lfPartReader_9 (fun v41 _ => ?_)
    refine ee_iload_n 1 dPartReader_numberOf_44 rfl ?_
    refine ee_iald (t := 0) dPartReader_numberOf_45 rfl (fun v45 _ => ?_)
    exact ee_iret rfl dPartReader_numberOf_46
  · skip
    refine ee_ite (fun h1_1 => ?_) (fun h1_1 => ?_)
    · refine ee_tabIn (tgt := 47) dPartReader_numberOf_1 (by rw [h1_1]; decide) (by rw [h1_1]; decide) (by rw [h1_1]; rfl) (by decide) ?_
      refine ee_aload_n 0 dPartReader_numberOf_47 rfl ?_
      refine ee_getR dPartReader_numberOf_48 lfPartReader_15 (fun v48 _ => ?_)
      refine ee_iload_n 1 dPartReader_numberOf_51 rfl ?_
      refine ee_iald (t := 0) dPartReader_numberOf_52 rfl (fun v52 _ => ?_)
      exact ee_iret rfl dPartReader_numberOf_53
    · skip
      refine ee_ite (fun h1_2 => ?_) (fun h1_2 => ?_)
      · refine ee_tabIn (tgt := 54) dPartReader_numberOf_1 (by rw [h1_2]; decide) (by rw [h1_2]; decide) (by rw [h1_2]; rfl) (by decide) ?_
        refine ee_aload_n 0 dPartReader_numberOf_54 rfl ?_
        refine ee_getR dPartReader_numberOf_55 lfPartReader_21 (fun v55 _ => ?_)
        refine ee_iload_n 1 dPartReader_numberOf_58 rfl ?_
        refine ee_iald (t := 0) dPartReader_numberOf_59 rfl (fun v59 _ => ?_)
        exact ee_iret rfl dPartReader_numberOf_60
      · skip
        refine ee_ite (fun h1_3 => ?_) (fun h1_3 => ?_)
        · refine ee_tabIn (tgt := 61) dPartReader_numberOf_1 (by rw [h1_3]; decide) (by rw [h1_3]; decide) (by rw [h1_3]; rfl) (by decide) ?_
          refine ee_aload_n 0 dPartReader_numberOf_61 rfl ?_
          refine ee_getR dPartReader_numberOf_62 lfPartReader_24 (fun v62 _ => ?_)
          refine ee_iload_n 1 dPartReader_numberOf_65 rfl ?_
          refine ee_iald (t := 0) dPartReader_numberOf_66 rfl (fun v66 _ => ?_)
          exact ee_iret rfl dPartReader_numberOf_67
        · skip
          refine ee_ite (fun h1_4 => ?_) (fun h1_4 => ?_)
          · refine ee_tabIn (tgt := 68) dPartReader_numberOf_1 (by rw [h1_4]; decide) (by rw [h1_4]; decide) (by rw [h1_4]; rfl) (by decide) ?_
            refine ee_aload_n 0 dPartReader_numberOf_68 rfl ?_
            refine ee_getR dPartReader_numberOf_69 lfPartReader_9 (fun v69 _ => ?_)
            refine ee_iload_n 1 dPartReader_numberOf_72 rfl ?_
            refine ee_iald (t := 0) dPartReader_numberOf_73 rfl (fun v73 _ => ?_)
            refine ee_iconst (v := (-1 : Int32)) dPartReader_numberOf_74 (by decide) ?_
            refine ee_icmp_ne (tgt := 82) dPartReader_numberOf_75 (by decide) (fun h75 => ?_) (fun h75 => ?_)
            · refine ee_iconst (v := (0 : Int32)) dPartReader_numberOf_82 (by decide) ?_
              exact ee_iret rfl dPartReader_numberOf_83
            · refine ee_iconst (v := (1 : Int32)) dPartReader_numberOf_78 (by decide) ?_
              refine ee_goto (tgt := 83) dPartReader_numberOf_79 (by decide) ?_
              exact ee_iret rfl dPartReader_numberOf_83
          · skip
            refine ee_ite (fun h1_5 => ?_) (fun h1_5 => ?_)
            · refine ee_tabIn (tgt := 84) dPartReader_numberOf_1 (by rw [h1_5]; decide) (by rw [h1_5]; decide) (by rw [h1_5]; rfl) (by decide) ?_
              refine ee_aload_n 0 dPartReader_numberOf_84 rfl ?_
              refine ee_getR dPartReader_numberOf_85 lfPartReader_27 (fun v85 _ => ?_)
              refine ee_iload_n 1 dPartReader_numberOf_88 rfl ?_
              refine ee_zald (t := 2) dPartReader_numberOf_89 rfl (fun v89 _ => ?_)
              refine ee_if_eq (tgt := 97) dPartReader_numberOf_90 (by decide) (fun h90 => ?_) (fun h90 => ?_)
              · refine ee_iconst (v := (0 : Int32)) dPartReader_numberOf_97 (by decide) ?_
                exact ee_iret rfl dPartReader_numberOf_98
              · refine ee_iconst (v := (1 : Int32)) dPartReader_numberOf_93 (by decide) ?_
                refine ee_goto (tgt := 98) dPartReader_numberOf_94 (by decide) ?_
                exact ee_iret rfl dPartReader_numberOf_98
            · skip
              refine ee_tabOut (tgt := 99) dPartReader_numberOf_1 (by have e0 : ¬ Int32.toInt l2 = (0 : Int) := fun h => h1_0 (Int32.toInt_inj.mp (h.trans (show (0 : Int) = (0 : Int32).toInt by decide))); have e1 : ¬ Int32.toInt l2 = (1 : Int) := fun h => h1_1 (Int32.toInt_inj.mp (h.trans (show (1 : Int) = (1 : Int32).toInt by decide))); have e2 : ¬ Int32.toInt l2 = (2 : Int) := fun h => h1_2 (Int32.toInt_inj.mp (h.trans (show (2 : Int) = (2 : Int32).toInt by decide))); have e3 : ¬ Int32.toInt l2 = (3 : Int) := fun h => h1_3 (Int32.toInt_inj.mp (h.trans (show (3 : Int) = (3 : Int32).toInt by decide))); have e4 : ¬ Int32.toInt l2 = (4 : Int) := fun h => h1_4 (Int32.toInt_inj.mp (h.trans (show (4 : Int) = (4 : Int32).toInt by decide))); have e5 : ¬ Int32.toInt l2 = (5 : Int) := fun h => h1_5 (Int32.toInt_inj.mp (h.trans (show (5 : Int) = (5 : Int32).toInt by decide))); omega) (by decide) ?_
              refine ee_iconst (v := (-1 : Int32)) dPartReader_numberOf_99 (by decide) ?_
              exact ee_iret rfl dPartReader_numberOf_100
def fPartReader_spoiltOnes_4 : Nat → Nat → Int32 → Int32 → PW → PX
  | 0, _, _, _, _ => none
  | n9 + 1, l0, l1, l2, w => (p_getI w l0 6 12).bind fun v6 => if v6 ≤ l2 then (some (.inl (some (.int l1)), w)) else ((p_obj w l0 6).bind fun _ => p_call (fPartReader_numberOf l0 l2 (4 : Int32) w) <| p_kI fun v16 w16 => p_let ((l1 + v16)) fun (l1_20 : Int32) => p_let (l2 + (1 : Int32)) fun (l2_21 : Int32) => (fPartReader_spoiltOnes_4 n9) l0 l1_20 l2_21 w16)
set_option maxRecDepth 20000 in
set_option maxHeartbeats 2000000 in
theorem t_fPartReader_spoiltOnes_4 {Γ : PG} : ∀ (n9 : Nat) (l0 : Nat) (l1 : Int32) (l2 : Int32) (w : PW), EE Γ MPartReader_spoiltOnes 4 [(0, .ref l0), (1, .int l1), (2, .int l2)] [] w (fPartReader_spoiltOnes_4 n9 l0 l1 l2 w) := by
  intro n9
  induction n9 with
  | zero => intro l0 l1 l2 w; exact ee_none
  | succ n9 ih =>
    intro l0 l1 l2 w
    unfold fPartReader_spoiltOnes_4
    refine ee_iload_n 2 dPartReader_spoiltOnes_4 rfl ?_
    refine ee_aload_n 0 dPartReader_spoiltOnes_5 rfl ?_
    refine ee_getI dPartReader_spoiltOnes_6 lfPartReader_41 (fun v6 _ => ?_)
    refine ee_icmp_ge (tgt := 27) dPartReader_spoiltOnes_9 (by decide) (fun h9 => ?_) (fun h9 => ?_)
    · refine ee_iload_n 1 dPartReader_spoiltOnes_27 rfl ?_
      exact ee_iret rfl dPartReader_spoiltOnes_28
    · refine ee_iload_n 1 dPartReader_spoiltOnes_12 rfl ?_
      refine ee_aload_n 0 dPartReader_spoiltOnes_13 rfl ?_
      refine ee_iload_n 2 dPartReader_spoiltOnes_14 rfl ?_
      refine ee_iconst (v := (4 : Int32)) dPartReader_spoiltOnes_15 (by decide) ?_
      refine ee_bind (fun _ ho16 => ?_)
      refine ee_callV (as := [.int l2, .int (4 : Int32)]) (st := [.int l1]) dPartReader_spoiltOnes_16 (t_fPartReader_numberOf l0 l2 (4 : Int32) w) my_fPartReader_numberOf.1 (Nat.le_of_ble_eq_true rfl) my_fPartReader_numberOf.2 rfl cf_6.1 rfl (p_obj_eq.mp ho16) gw_720 gw_721 gw_722 ⟨Nat.le_of_ble_eq_true rfl, Nat.le_of_ble_eq_true rfl⟩ (Nat.le_of_ble_eq_true rfl) (fun rv16 w16 _ => ?_)
      refine ee_kI (fun v16 => ?_)
      refine ee_iadd dPartReader_spoiltOnes_19 ?_
      refine ee_letI (fun l1_20 _ => ?_)
      refine ee_istore_n (lv2 := [(1, .int l1_20), (0, .ref l0), (2, .int l2)]) dPartReader_spoiltOnes_20 (Nat.le_of_ble_eq_true rfl) rfl ?_
      refine ee_iinc 2 dPartReader_spoiltOnes_21 rfl (e := (1 : Int32)) (by decide) (Nat.le_of_ble_eq_true rfl) (fun l2_21 _ => ?_)
      refine ee_lv (lv2 := [(2, .int l2_21), (1, .int l1_20), (0, .ref l0)]) rfl ?_
      refine ee_goto (tgt := 4) dPartReader_spoiltOnes_24 (by decide) ?_
      refine ee_pick [2, 1, 0] rfl ?_
      exact ih _ _ _ w16
def fPartReader_spoiltOnes (l0 : Nat) (w : PW) : PX := fPartReader_spoiltOnes_4 FUEL l0 (0 : Int32) (0 : Int32) w
set_option maxRecDepth 20000 in
set_option maxHeartbeats 2000000 in
theorem t_fPartReader_spoiltOnes {Γ : PG} : ∀ (l0 : Nat) (w : PW), EE Γ MPartReader_spoiltOnes 0 (lv_args 0 [.ref l0]) [] w (fPartReader_spoiltOnes l0 w) := by
  intro l0 w
  unfold fPartReader_spoiltOnes
  show EE Γ MPartReader_spoiltOnes 0 [(0, .ref l0)] [] w _
  refine ee_iconst (v := (0 : Int32)) dPartReader_spoiltOnes_0 (by decide) ?_
  refine ee_istore_n (lv2 := [(1, .int (0 : Int32)), (0, .ref l0)]) dPartReader_spoiltOnes_1 (Nat.le_of_ble_eq_true rfl) rfl ?_
  refine ee_iconst (v := (0 : Int32)) dPartReader_spoiltOnes_2 (by decide) ?_
  refine ee_istore_n (lv2 := [(2, .int (0 : Int32)), (1, .int (0 : Int32)), (0, .ref l0)]) dPartReader_spoiltOnes_3 (Nat.le_of_ble_eq_true rfl) rfl ?_
  refine ee_pick [2, 1, 0] rfl ?_
  exact t_fPartReader_spoiltOnes_4 FUEL _ _ _ w
