def fHeadReader_keepDepths_12 : Nat → Nat → Int32 → Int32 → Int32 → PW → PX
  | 0, _, _, _, _, _ => none
  | n9 + 1, l0, l1, l2, l3, w => if l2 ≤ l3 then (p_retZ (1 : Int32) w) else ((p_getR w l0 3 0).bind fun v18 => (p_obj w v18 2).bind fun _ => p_call (fBytes_get v18 (l1 + ((3 : Int32) * l3)) w) <| p_kI fun v26 w26 => p_let ((v26 + (1 : Int32))) fun (l4_31 : Int32) => p_call (fW_isWithin (3 : Int32) (Int32.toInt64 l4_31) w26) <| p_kI fun v37 w37 => if v37 = 0 then (p_retZ (0 : Int32) w37) else ((p_getR w37 l0 3 0).bind fun v44 => (p_obj w37 v44 2).bind fun _ => p_call (fBytes_number v44 ((l1 + ((3 : Int32) * l3)) + (1 : Int32)) (2 : Int32) w37) <| p_kJ fun v55 w55 => if (lg_cmp v55 (257 : Int64)) = 0 then ((p_getR w55 l0 3 1).bind fun v68 => (p_obj w55 v68 7).bind fun _ => p_call (fSettings_changeDepth v68 l3 l4_31 w55) <| p_kV fun w74 => p_let (l3 + (1 : Int32)) fun (l3_77 : Int32) => (fHeadReader_keepDepths_12 n9) l0 l1 l2 l3_77 w74) else (p_retZ (0 : Int32) w55)))
set_option maxRecDepth 20000 in
set_option maxHeartbeats 2000000 in
theorem t_fHeadReader_keepDepths_12 {Γ : PG} : ∀ (n9 : Nat) (l0 : Nat) (l1 : Int32) (l2 : Int32) (l3 : Int32) (w : PW), EE Γ MHeadReader_keepDepths 12 [(0, .ref l0), (1, .int l1), (2, .int l2), (3, .int l3)] [] w (fHeadReader_keepDepths_12 n9 l0 l1 l2 l3 w) := by
  intro n9
  induction n9 with
  | zero => intro l0 l1 l2 l3 w; exact ee_none
  | succ n9 ih =>
    intro l0 l1 l2 l3 w
    unfold fHeadReader_keepDepths_12
    refine ee_iload_n 3 dHeadReader_keepDepths_12 rfl ?_
    refine ee_iload_n 2 dHeadReader_keepDepths_13 rfl ?_
    refine ee_icmp_ge (tgt := 83) dHeadReader_keepDepths_14 (by decide) (fun h14 => ?_) (fun h14 => ?_)
    · refine ee_iconst (v := (1 : Int32)) dHeadReader_keepDepths_83 (by decide) ?_
      exact ee_zret rfl dHeadReader_keepDepths_84
    · refine ee_aload_n 0 dHeadReader_keepDepths_17 rfl ?_
      refine ee_getR dHeadReader_keepDepths_18 lfHeadReader_15 (fun v18 _ => ?_)
      refine ee_iload_n 1 dHeadReader_keepDepths_21 rfl ?_
      refine ee_iconst (v := (3 : Int32)) dHeadReader_keepDepths_22 (by decide) ?_
      refine ee_iload_n 3 dHeadReader_keepDepths_23 rfl ?_
      refine ee_imul dHeadReader_keepDepths_24 ?_
      refine ee_iadd dHeadReader_keepDepths_25 ?_
      refine ee_bind (fun _ ho26 => ?_)
      refine ee_callV (as := [.int (l1 + ((3 : Int32) * l3))]) (st := []) dHeadReader_keepDepths_26 (t_fBytes_get v18 (l1 + ((3 : Int32) * l3)) w) my_fBytes_get.1 (Nat.le_of_ble_eq_true rfl) my_fBytes_get.2 rfl cf_2.1 rfl (p_obj_eq.mp ho26) gw_593 gw_459 gw_460 ⟨Nat.le_of_ble_eq_true rfl, Nat.le_of_ble_eq_true rfl⟩ (Nat.le_of_ble_eq_true rfl) (fun rv26 w26 _ => ?_)
      refine ee_kI (fun v26 => ?_)
      refine ee_iconst (v := (1 : Int32)) dHeadReader_keepDepths_29 (by decide) ?_
      refine ee_iadd dHeadReader_keepDepths_30 ?_
      refine ee_letI (fun l4_31 _ => ?_)
      refine ee_istore (lv2 := [(4, .int l4_31), (0, .ref l0), (1, .int l1), (2, .int l2), (3, .int l3)]) dHeadReader_keepDepths_31 (Nat.le_of_ble_eq_true rfl) rfl ?_
      refine ee_iconst (v := (3 : Int32)) dHeadReader_keepDepths_33 (by decide) ?_
      refine ee_iload 0 dHeadReader_keepDepths_34 rfl ?_
      refine ee_i2l dHeadReader_keepDepths_36 ?_
      refine ee_callSN (as := [.int (3 : Int32), .long (Int32.toInt64 l4_31)]) (st := []) dHeadReader_keepDepths_37 (t_fW_isWithin (3 : Int32) (Int32.toInt64 l4_31) w26) my_fW_isWithin.1 (Nat.le_of_ble_eq_true rfl) my_fW_isWithin.2 rfl gw_603 gw_604 ⟨Nat.le_of_ble_eq_true rfl, Nat.le_of_ble_eq_true rfl⟩ (Nat.le_of_ble_eq_true rfl) (fun rv37 w37 _ => ?_)
      refine ee_kI (fun v37 => ?_)
      refine ee_if_eq (tgt := 65) dHeadReader_keepDepths_40 (by decide) (fun h40 => ?_) (fun h40 => ?_)
      · refine ee_iconst (v := (0 : Int32)) dHeadReader_keepDepths_65 (by decide) ?_
        exact ee_zret rfl dHeadReader_keepDepths_66
      · refine ee_aload_n 1 dHeadReader_keepDepths_43 rfl ?_
        refine ee_getR dHeadReader_keepDepths_44 lfHeadReader_15 (fun v44 _ => ?_)
        refine ee_iload_n 2 dHeadReader_keepDepths_47 rfl ?_
        refine ee_iconst (v := (3 : Int32)) dHeadReader_keepDepths_48 (by decide) ?_
        refine ee_iload_n 4 dHeadReader_keepDepths_49 rfl ?_
        refine ee_imul dHeadReader_keepDepths_50 ?_
        refine ee_iadd dHeadReader_keepDepths_51 ?_
        refine ee_iconst (v := (1 : Int32)) dHeadReader_keepDepths_52 (by decide) ?_
        refine ee_iadd dHeadReader_keepDepths_53 ?_
        refine ee_iconst (v := (2 : Int32)) dHeadReader_keepDepths_54 (by decide) ?_
        refine ee_bind (fun _ ho55 => ?_)
        refine ee_callV (as := [.int ((l1 + ((3 : Int32) * l3)) + (1 : Int32)), .int (2 : Int32)]) (st := []) dHeadReader_keepDepths_55 (t_fBytes_number v44 ((l1 + ((3 : Int32) * l3)) + (1 : Int32)) (2 : Int32) w37) my_fBytes_number.1 (Nat.le_of_ble_eq_true rfl) my_fBytes_number.2 rfl cf_2.1 rfl (p_obj_eq.mp ho55) gw_598 gw_538 gw_539 ⟨Nat.le_of_ble_eq_true rfl, Nat.le_of_ble_eq_true rfl⟩ (Nat.le_of_ble_eq_true rfl) (fun rv55 w55 _ => ?_)
        refine ee_kJ (fun v55 => ?_)
        refine ee_ldc2 (v := (257 : Int64)) dHeadReader_keepDepths_58 gw_633 ?_
        refine ee_lcmp dHeadReader_keepDepths_61 ?_
        refine ee_if_eq (tgt := 67) dHeadReader_keepDepths_62 (by decide) (fun h62 => ?_) (fun h62 => ?_)
        · refine ee_aload_n 1 dHeadReader_keepDepths_67 rfl ?_
          refine ee_getR dHeadReader_keepDepths_68 lfHeadReader_19 (fun v68 _ => ?_)
          refine ee_iload_n 4 dHeadReader_keepDepths_71 rfl ?_
          refine ee_iload 0 dHeadReader_keepDepths_72 rfl ?_
          refine ee_bind (fun _ ho74 => ?_)
          refine ee_callV (as := [.int l3, .int l4_31]) (st := []) dHeadReader_keepDepths_74 (t_fSettings_changeDepth v68 l3 l4_31 w55) my_fSettings_changeDepth.1 (Nat.le_of_ble_eq_true rfl) my_fSettings_changeDepth.2 rfl cf_7.1 rfl (p_obj_eq.mp ho74) gw_634 gw_635 gw_636 ⟨Nat.le_of_ble_eq_true rfl, Nat.le_of_ble_eq_true rfl⟩ (Nat.le_of_ble_eq_true rfl) (fun rv74 w74 _ => ?_)
          refine ee_kV ?_
          refine ee_iinc 4 dHeadReader_keepDepths_77 rfl (e := (1 : Int32)) (by decide) (Nat.le_of_ble_eq_true rfl) (fun l3_77 _ => ?_)
          refine ee_lv (lv2 := [(3, .int l3_77), (4, .int l4_31), (0, .ref l0), (1, .int l1), (2, .int l2)]) rfl ?_
          refine ee_goto (tgt := 12) dHeadReader_keepDepths_80 (by decide) ?_
          refine ee_pick [2, 3, 4, 0] rfl ?_
          exact ih _ _ _ _ w74
        · refine ee_iconst (v := (0 : Int32)) dHeadReader_keepDepths_65 (by decide) ?_
          exact ee_zret rfl dHeadReader_keepDepths_66
def fHeadReader_keepDepths (l0 : Nat) (l1 : Int32) (l2 : Int32) (w : PW) : PX := (p_getR w l0 3 1).bind fun v1 => (p_getR w v1 7 0).bind fun v4 => (p_ast w v4 0 (2 : Int32) l2).bind fun w9 => fHeadReader_keepDepths_12 FUEL l0 l1 l2 (0 : Int32) w9
set_option maxRecDepth 20000 in
set_option maxHeartbeats 2000000 in
theorem t_fHeadReader_keepDepths {Γ : PG} : ∀ (l0 : Nat) (l1 : Int32) (l2 : Int32) (w : PW), EE Γ MHeadReader_keepDepths 0 (lv_args 0 [.ref l0, .int l1, .int l2]) [] w (fHeadReader_keepDepths l0 l1 l2 w) := by
  intro l0 l1 l2 w
  unfold fHeadReader_keepDepths
  show EE Γ MHeadReader_keepDepths 0 [(0, .ref l0), (1, .int l1), (2, .int l2)] [] w _
  refine ee_aload_n 0 dHeadReader_keepDepths_0 rfl ?_
  refine ee_getR dHeadReader_keepDepths_1 lfHeadReader_19 (fun v1 _ => ?_)
  refine ee_getR dHeadReader_keepDepths_4 lfHeadReader_69 (fun v4 _ => ?_)
  refine ee_iconst (v := (2 : Int32)) dHeadReader_keepDepths_7 (by decide) ?_
  refine ee_iload_n 2 dHeadReader_keepDepths_8 rfl ?_
  refine ee_iast (t := 0) dHeadReader_keepDepths_9 rfl (fun w9 _ => ?_)
  refine ee_iconst (v := (0 : Int32)) dHeadReader_keepDepths_10 (by decide) ?_
  refine ee_istore_n (lv2 := [(3, .int (0 : Int32)), (0, .ref l0), (1, .int l1), (2, .int l2)]) dHeadReader_keepDepths_11 (Nat.le_of_ble_eq_true rfl) rfl ?_
  refine ee_pick [1, 2, 3, 0] rfl ?_
  exact t_fHeadReader_keepDepths_12 FUEL _ _ _ _ w9
def fHeadReader_keepSizes_125 (l0 : Nat) (l1 : Int32) (l3 : Int64) (s0 : Int32) (w : PW) : PX := if s0 = 0 then (p_retZ (0 : Int32) w) else ((p_obj w l0 3).bind fun _ => p_call (fHeadReader_keepSides l0 l1 w) <| p_kI fun v134 w134 => if v134 = 0 then (p_retZ (0 : Int32) w134) else ((p_obj w134 l0 3).bind fun _ => p_call (fHeadReader_keepDepths l0 (l1 + (40 : Int32)) (Int64.toInt32 l3) w134) <| p_kI fun v147 w147 => if v147 = 0 then (p_retZ (0 : Int32) w147) else (p_retZ (1 : Int32) w147)))
set_option maxRecDepth 20000 in
set_option maxHeartbeats 2000000 in
theorem t_fHeadReader_keepSizes_125 {Γ : PG} : ∀ (l0 : Nat) (l1 : Int32) (l3 : Int64) (s0 : Int32) (w : PW), EE Γ MHeadReader_keepSizes 125 [(0, .ref l0), (1, .int l1), (3, .long l3)] [.int s0] w (fHeadReader_keepSizes_125 l0 l1 l3 s0 w) := by
  intro l0 l1 l3 s0 w
  unfold fHeadReader_keepSizes_125
  refine ee_istore (lv2 := [(5, .int s0), (0, .ref l0), (1, .int l1), (3, .long l3)]) dHeadReader_keepSizes_125 (Nat.le_of_ble_eq_true rfl) rfl ?_
  refine ee_iload 0 dHeadReader_keepSizes_127 rfl ?_
  refine ee_if_eq (tgt := 157) dHeadReader_keepSizes_129 (by decide) (fun h129 => ?_) (fun h129 => ?_)
  · refine ee_iconst (v := (0 : Int32)) dHeadReader_keepSizes_157 (by decide) ?_
    exact ee_zret rfl dHeadReader_keepSizes_158
  · refine ee_aload_n 1 dHeadReader_keepSizes_132 rfl ?_
    refine ee_iload_n 2 dHeadReader_keepSizes_133 rfl ?_
    refine ee_bind (fun _ ho134 => ?_)
    refine ee_callV (as := [.int l1]) (st := []) dHeadReader_keepSizes_134 (t_fHeadReader_keepSides l0 l1 w) my_fHeadReader_keepSides.1 (Nat.le_of_ble_eq_true rfl) my_fHeadReader_keepSides.2 rfl cf_3.1 rfl (p_obj_eq.mp ho134) gw_610 gw_611 gw_612 ⟨Nat.le_of_ble_eq_true rfl, Nat.le_of_ble_eq_true rfl⟩ (Nat.le_of_ble_eq_true rfl) (fun rv134 w134 _ => ?_)
    refine ee_kI (fun v134 => ?_)
    refine ee_if_eq (tgt := 157) dHeadReader_keepSizes_137 (by decide) (fun h137 => ?_) (fun h137 => ?_)
    · refine ee_iconst (v := (0 : Int32)) dHeadReader_keepSizes_157 (by decide) ?_
      exact ee_zret rfl dHeadReader_keepSizes_158
    · refine ee_aload_n 1 dHeadReader_keepSizes_140 rfl ?_
      refine ee_iload_n 2 dHeadReader_keepSizes_141 rfl ?_
      refine ee_bipush (v := (40 : Int32)) dHeadReader_keepSizes_142 (by decide) ?_
      refine ee_iadd dHeadReader_keepSizes_144 ?_
      refine ee_lload_n 3 dHeadReader_keepSizes_145 rfl ?_
      refine ee_l2i dHeadReader_keepSizes_146 ?_
      refine ee_bind (fun _ ho147 => ?_)
      refine ee_callV (as := [.int (l1 + (40 : Int32)), .int (Int64.toInt32 l3)]) (st := []) dHeadReader_keepSizes_147 (t_fHeadReader_keepDepths l0 (l1 + (40 : Int32)) (Int64.toInt32 l3) w134) my_fHeadReader_keepDepths.1 (Nat.le_of_ble_eq_true rfl) my_fHeadReader_keepDepths.2 rfl cf_3.1 rfl (p_obj_eq.mp ho147) gw_629 gw_630 gw_631 ⟨Nat.le_of_ble_eq_true rfl, Nat.le_of_ble_eq_true rfl⟩ (Nat.le_of_ble_eq_true rfl) (fun rv147 w147 _ => ?_)
      refine ee_kI (fun v147 => ?_)
      refine ee_if_eq (tgt := 157) dHeadReader_keepSizes_150 (by decide) (fun h150 => ?_) (fun h150 => ?_)
      · refine ee_iconst (v := (0 : Int32)) dHeadReader_keepSizes_157 (by decide) ?_
        exact ee_zret rfl dHeadReader_keepSizes_158
      · refine ee_iconst (v := (1 : Int32)) dHeadReader_keepSizes_153 (by decide) ?_
        refine ee_goto (tgt := 158) dHeadReader_keepSizes_154 (by decide) ?_
        exact ee_zret rfl dHeadReader_keepSizes_158
def fHeadReader_keepSizes (l0 : Nat) (l1 : Int32) (l2 : Int32) (w : PW) : PX := (p_getR w l0 3 0).bind fun v1 => (p_obj w v1 2).bind fun _ => p_call (fBytes_number v1 (l1 + (38 : Int32)) (2 : Int32) w) <| p_kJ fun v9 w9 => p_call (fW_isWithin (2 : Int32) v9 w9) <| p_kI fun v15 w15 => if v15 = 0 then (p_retZ (0 : Int32) w15) else (if (l2 - l1) = ((40 : Int32) + ((3 : Int32) * (Int64.toInt32 v9))) then ((p_getR w15 l0 3 0).bind fun v37 => (p_obj w15 v37 2).bind fun _ => p_call (fBytes_number v37 (l1 + (4 : Int32)) (2 : Int32) w15) <| p_kJ fun v44 w44 => if ¬ (lg_cmp v44 (0 : Int64)) = 0 then (fHeadReader_keepSizes_125 l0 l1 v9 (0 : Int32) w44) else ((p_getR w44 l0 3 0).bind fun v53 => (p_obj w44 v53 2).bind fun _ => p_call (fBytes_number v53 (l1 + (14 : Int32)) (4 : Int32) w44) <| p_kJ fun v61 w61 => if ¬ (lg_cmp v61 (0 : Int64)) = 0 then (fHeadReader_keepSizes_125 l0 l1 v9 (0 : Int32) w61) else ((p_getR w61 l0 3 0).bind fun v70 => (p_obj w61 v70 2).bind fun _ => p_call (fBytes_number v70 (l1 + (18 : Int32)) (4 : Int32) w61) <| p_kJ fun v78 w78 => if ¬ (lg_cmp v78 (0 : Int64)) = 0 then (fHeadReader_keepSizes_125 l0 l1 v9 (0 : Int32) w78) else ((p_getR w78 l0 3 0).bind fun v87 => (p_obj w78 v87 2).bind fun _ => p_call (fBytes_number v87 (l1 + (30 : Int32)) (4 : Int32) w78) <| p_kJ fun v95 w95 => if ¬ (lg_cmp v95 (0 : Int64)) = 0 then (fHeadReader_keepSizes_125 l0 l1 v9 (0 : Int32) w95) else ((p_getR w95 l0 3 0).bind fun v104 => (p_obj w95 v104 2).bind fun _ => p_call (fBytes_number v104 (l1 + (34 : Int32)) (4 : Int32) w95) <| p_kJ fun v112 w112 => if ¬ (lg_cmp v112 (0 : Int64)) = 0 then (fHeadReader_keepSizes_125 l0 l1 v9 (0 : Int32) w112) else (fHeadReader_keepSizes_125 l0 l1 v9 (1 : Int32) w112)))))) else (p_retZ (0 : Int32) w15))
set_option maxRecDepth 20000 in
set_option maxHeartbeats 2000000 in
theorem t_fHeadReader_keepSizes {Γ : PG} : ∀ (l0 : Nat) (l1 : Int32) (l2 : Int32) (w : PW), EE Γ MHeadReader_keepSizes 0 (lv_args 0 [.ref l0, .int l1, .int l2]) [] w (fHeadReader_keepSizes l0 l1 l2 w) := by
  intro l0 l1 l2 w
  unfold fHeadReader_keepSizes
  show EE Γ MHeadReader_keepSizes 0 [(0, .ref l0), (1, .int l1), (2, .int l2)] [] w _
  refine ee_aload_n 0 dHeadReader_keepSizes_0 rfl ?_
  refine ee_getR dHeadReader_keepSizes_1 lfHeadReader_15 (fun v1 _ => ?_)
  refine ee_iload_n 1 dHeadReader_keepSizes_4 rfl ?_
  refine ee_bipush (v := (38 : Int32)) dHeadReader_keepSizes_5 (by decide) ?_
  refine ee_iadd dHeadReader_keepSizes_7 ?_
  refine ee_iconst (v := (2 : Int32)) dHeadReader_keepSizes_8 (by decide) ?_
  refine ee_bind (fun _ ho9 => ?_)
  refine ee_callV (as := [.int (l1 + (38 : Int32)), .int (2 : Int32)]) (st := []) dHeadReader_keepSizes_9 (t_fBytes_number v1 (l1 + (38 : Int32)) (2 : Int32) w) my_fBytes_number.1 (Nat.le_of_ble_eq_true rfl) my_fBytes_number.2 rfl cf_2.1 rfl (p_obj_eq.mp ho9) gw_598 gw_538 gw_539 ⟨Nat.le_of_ble_eq_true rfl, Nat.le_of_ble_eq_true rfl⟩ (Nat.le_of_ble_eq_true rfl) (fun rv9 w9 _ => ?_)
  refine ee_kJ (fun v9 => ?_)
  refine ee_lstore_n (lv2 := [(3, .long v9), (0, .ref l0), (1, .int l1), (2, .int l2)]) dHeadReader_keepSizes_12 (Nat.le_of_ble_eq_true rfl) rfl ?_
  refine ee_iconst (v := (2 : Int32)) dHeadReader_keepSizes_13 (by decide) ?_
  refine ee_lload_n 0 dHeadReader_keepSizes_14 rfl ?_
  refine ee_callSN (as := [.int (2 : Int32), .long v9]) (st := []) dHeadReader_keepSizes_15 (t_fW_isWithin (2 : Int32) v9 w9) my_fW_isWithin.1 (Nat.le_of_ble_eq_true rfl) my_fW_isWithin.2 rfl gw_603 gw_604 ⟨Nat.le_of_ble_eq_true rfl, Nat.le_of_ble_eq_true rfl⟩ (Nat.le_of_ble_eq_true rfl) (fun rv15 w15 _ => ?_)
  refine ee_kI (fun v15 => ?_)
  refine ee_if_eq (tgt := 34) dHeadReader_keepSizes_18 (by decide) (fun h18 => ?_) (fun h18 => ?_)
  · refine ee_iconst (v := (0 : Int32)) dHeadReader_keepSizes_34 (by decide) ?_
    exact ee_zret rfl dHeadReader_keepSizes_35
  · refine ee_iload_n 3 dHeadReader_keepSizes_21 rfl ?_
    refine ee_iload_n 2 dHeadReader_keepSizes_22 rfl ?_
    refine ee_isub dHeadReader_keepSizes_23 ?_
    refine ee_bipush (v := (40 : Int32)) dHeadReader_keepSizes_24 (by decide) ?_
    refine ee_iconst (v := (3 : Int32)) dHeadReader_keepSizes_26 (by decide) ?_
    refine ee_lload_n 0 dHeadReader_keepSizes_27 rfl ?_
    refine ee_l2i dHeadReader_keepSizes_28 ?_
    refine ee_imul dHeadReader_keepSizes_29 ?_
    refine ee_iadd dHeadReader_keepSizes_30 ?_
    refine ee_icmp_eq (tgt := 36) dHeadReader_keepSizes_31 (by decide) (fun h31 => ?_) (fun h31 => ?_)
    · refine ee_aload_n 1 dHeadReader_keepSizes_36 rfl ?_
      refine ee_getR dHeadReader_keepSizes_37 lfHeadReader_15 (fun v37 _ => ?_)
      refine ee_iload_n 2 dHeadReader_keepSizes_40 rfl ?_
      refine ee_iconst (v := (4 : Int32)) dHeadReader_keepSizes_41 (by decide) ?_
      refine ee_iadd dHeadReader_keepSizes_42 ?_
      refine ee_iconst (v := (2 : Int32)) dHeadReader_keepSizes_43 (by decide) ?_
      refine ee_bind (fun _ ho44 => ?_)
      refine ee_callV (as := [.int (l1 + (4 : Int32)), .int (2 : Int32)]) (st := []) dHeadReader_keepSizes_44 (t_fBytes_number v37 (l1 + (4 : Int32)) (2 : Int32) w15) my_fBytes_number.1 (Nat.le_of_ble_eq_true rfl) my_fBytes_number.2 rfl cf_2.1 rfl (p_obj_eq.mp ho44) gw_598 gw_538 gw_539 ⟨Nat.le_of_ble_eq_true rfl, Nat.le_of_ble_eq_true rfl⟩ (Nat.le_of_ble_eq_true rfl) (fun rv44 w44 _ => ?_)
      refine ee_kJ (fun v44 => ?_)
      refine ee_lconst (v := (0 : Int64)) dHeadReader_keepSizes_47 (by decide) ?_
      refine ee_lcmp dHeadReader_keepSizes_48 ?_
      refine ee_if_ne (tgt := 124) dHeadReader_keepSizes_49 (by decide) (fun h49 => ?_) (fun h49 => ?_)
      · refine ee_iconst (v := (0 : Int32)) dHeadReader_keepSizes_124 (by decide) ?_
        refine ee_pick [1, 2, 0] rfl ?_
        exact t_fHeadReader_keepSizes_125 _ _ _ _ w44
      · refine ee_aload_n 1 dHeadReader_keepSizes_52 rfl ?_
        refine ee_getR dHeadReader_keepSizes_53 lfHeadReader_15 (fun v53 _ => ?_)
        refine ee_iload_n 2 dHeadReader_keepSizes_56 rfl ?_
        refine ee_bipush (v := (14 : Int32)) dHeadReader_keepSizes_57 (by decide) ?_
        refine ee_iadd dHeadReader_keepSizes_59 ?_
        refine ee_iconst (v := (4 : Int32)) dHeadReader_keepSizes_60 (by decide) ?_
        refine ee_bind (fun _ ho61 => ?_)
        refine ee_callV (as := [.int (l1 + (14 : Int32)), .int (4 : Int32)]) (st := []) dHeadReader_keepSizes_61 (t_fBytes_number v53 (l1 + (14 : Int32)) (4 : Int32) w44) my_fBytes_number.1 (Nat.le_of_ble_eq_true rfl) my_fBytes_number.2 rfl cf_2.1 rfl (p_obj_eq.mp ho61) gw_598 gw_538 gw_539 ⟨Nat.le_of_ble_eq_true rfl, Nat.le_of_ble_eq_true rfl⟩ (Nat.le_of_ble_eq_true rfl) (fun rv61 w61 _ => ?_)
        refine ee_kJ (fun v61 => ?_)
        refine ee_lconst (v := (0 : Int64)) dHeadReader_keepSizes_64 (by decide) ?_
        refine ee_lcmp dHeadReader_keepSizes_65 ?_
        refine ee_if_ne (tgt := 124) dHeadReader_keepSizes_66 (by decide) (fun h66 => ?_) (fun h66 => ?_)
        · refine ee_iconst (v := (0 : Int32)) dHeadReader_keepSizes_124 (by decide) ?_
          refine ee_pick [1, 2, 0] rfl ?_
          exact t_fHeadReader_keepSizes_125 _ _ _ _ w61
        · refine ee_aload_n 1 dHeadReader_keepSizes_69 rfl ?_
          refine ee_getR dHeadReader_keepSizes_70 lfHeadReader_15 (fun v70 _ => ?_)
          refine ee_iload_n 2 dHeadReader_keepSizes_73 rfl ?_
          refine ee_bipush (v := (18 : Int32)) dHeadReader_keepSizes_74 (by decide) ?_
          refine ee_iadd dHeadReader_keepSizes_76 ?_
          refine ee_iconst (v := (4 : Int32)) dHeadReader_keepSizes_77 (by decide) ?_
          refine ee_bind (fun _ ho78 => ?_)
          refine ee_callV (as := [.int (l1 + (18 : Int32)), .int (4 : Int32)]) (st := []) dHeadReader_keepSizes_78 (t_fBytes_number v70 (l1 + (18 : Int32)) (4 : Int32) w61) my_fBytes_number.1 (Nat.le_of_ble_eq_true rfl) my_fBytes_number.2 rfl cf_2.1 rfl (p_obj_eq.mp ho78) gw_598 gw_538 gw_539 ⟨Nat.le_of_ble_eq_true rfl, Nat.le_of_ble_eq_true rfl⟩ (Nat.le_of_ble_eq_true rfl) (fun rv78 w78 _ => ?_)
          refine ee_kJ (fun v78 => ?_)
          refine ee_lconst (v := (0 : Int64)) dHeadReader_keepSizes_81 (by decide) ?_
          refine ee_lcmp dHeadReader_keepSizes_82 ?_
          refine ee_if_ne (tgt := 124) dHeadReader_keepSizes_83 (by decide) (fun h83 => ?_) (fun h83 => ?_)
          · refine ee_iconst (v := (0 : Int32)) dHeadReader_keepSizes_124 (by decide) ?_
            refine ee_pick [1, 2, 0] rfl ?_
            exact t_fHeadReader_keepSizes_125 _ _ _ _ w78
          · refine ee_aload_n 1 dHeadReader_keepSizes_86 rfl ?_
            refine ee_getR dHeadReader_keepSizes_87 lfHeadReader_15 (fun v87 _ => ?_)
            refine ee_iload_n 2 dHeadReader_keepSizes_90 rfl ?_
            refine ee_bipush (v := (30 : Int32)) dHeadReader_keepSizes_91 (by decide) ?_
            refine ee_iadd dHeadReader_keepSizes_93 ?_
            refine ee_iconst (v := (4 : Int32)) dHeadReader_keepSizes_94 (by decide) ?_
            refine ee_bind (fun _ ho95 => ?_)
            refine ee_callV (as := [.int (l1 + (30 : Int32)), .int (4 : Int32)]) (st := []) dHeadReader_keepSizes_95 (t_fBytes_number v87 (l1 + (30 : Int32)) (4 : Int32) w78) my_fBytes_number.1 (Nat.le_of_ble_eq_true rfl) my_fBytes_number.2 rfl cf_2.1 rfl (p_obj_eq.mp ho95) gw_598 gw_538 gw_539 ⟨Nat.le_of_ble_eq_true rfl, Nat.le_of_ble_eq_true rfl⟩ (Nat.le_of_ble_eq_true rfl) (fun rv95 w95 _ => ?_)
            refine ee_kJ (fun v95 => ?_)
            refine ee_lconst (v := (0 : Int64)) dHeadReader_keepSizes_98 (by decide) ?_
            refine ee_lcmp dHeadReader_keepSizes_99 ?_
            refine ee_if_ne (tgt := 124) dHeadReader_keepSizes_100 (by decide) (fun h100 => ?_) (fun h100 => ?_)
            · refine ee_iconst (v := (0 : Int32)) dHeadReader_keepSizes_124 (by decide) ?_
              refine ee_pick [1, 2, 0] rfl ?_
              exact t_fHeadReader_keepSizes_125 _ _ _ _ w95
            · refine ee_aload_n 1 dHeadReader_keepSizes_103 rfl ?_
              refine ee_getR dHeadReader_keepSizes_104 lfHeadReader_15 (fun v104 _ => ?_)
              refine ee_iload_n 2 dHeadReader_keepSizes_107 rfl ?_
              refine ee_bipush (v := (34 : Int32)) dHeadReader_keepSizes_108 (by decide) ?_
              refine ee_iadd dHeadReader_keepSizes_110 ?_
              refine ee_iconst (v := (4 : Int32)) dHeadReader_keepSizes_111 (by decide) ?_
              refine ee_bind (fun _ ho112 => ?_)
              refine ee_callV (as := [.int (l1 + (34 : Int32)), .int (4 : Int32)]) (st := []) dHeadReader_keepSizes_112 (t_fBytes_number v104 (l1 + (34 : Int32)) (4 : Int32) w95) my_fBytes_number.1 (Nat.le_of_ble_eq_true rfl) my_fBytes_number.2 rfl cf_2.1 rfl (p_obj_eq.mp ho112) gw_598 gw_538 gw_539 ⟨Nat.le_of_ble_eq_true rfl, Nat.le_of_ble_eq_true rfl⟩ (Nat.le_of_ble_eq_true rfl) (fun rv112 w112 _ => ?_)
              refine ee_kJ (fun v112 => ?_)
              refine ee_lconst (v := (0 : Int64)) dHeadReader_keepSizes_115 (by decide) ?_
              refine ee_lcmp dHeadReader_keepSizes_116 ?_
              refine ee_if_ne (tgt := 124) dHeadReader_keepSizes_117 (by decide) (fun h117 => ?_) (fun h117 => ?_)
              · refine ee_iconst (v := (0 : Int32)) dHeadReader_keepSizes_124 (by decide) ?_
                refine ee_pick [1, 2, 0] rfl ?_
                exact t_fHeadReader_keepSizes_125 _ _ _ _ w112
              · refine ee_iconst (v := (1 : Int32)) dHeadReader_keepSizes_120 (by decide) ?_
                refine ee_goto (tgt := 125) dHeadReader_keepSizes_121 (by decide) ?_
                refine ee_pick [1, 2, 0] rfl ?_
                exact t_fHeadReader_keepSizes_125 _ _ _ _ w112
    · refine ee_iconst (v := (0 : Int32)) dHeadReader_keepSizes_34 (by decide) ?_
      exact ee_zret rfl dHeadReader_keepSizes_35
def fHeadReader_keepStyleForAll (l0 : Nat) (l1 : Int32) (l2 : Int32) (w : PW) : PX := (p_getR w l0 3 0).bind fun v1 => (p_obj w v1 2).bind fun _ => p_call (fBytes_get v1 (l1 + (5 : Int32)) w) <| p_kI fun v7 w7 => (p_getR w7 l0 3 0).bind fun v12 => (p_obj w7 v12 2).bind fun _ => p_call (fBytes_number v12 (l1 + (6 : Int32)) (2 : Int32) w7) <| p_kJ fun v20 w20 => p_let ((Int64.toInt32 v20)) fun (l4_24 : Int32) => (p_getR w20 l0 3 0).bind fun v27 => (p_obj w20 v27 2).bind fun _ => p_call (fBytes_get v27 (l1 + (4 : Int32)) w20) <| p_kI fun v33 w33 => if ¬ v33 = 0 then (p_retZ (0 : Int32) w33) else (p_call (fW_isWithin (4 : Int32) (Int32.toInt64 v7) w33) <| p_kI fun v42 w42 => if v42 = 0 then (p_retZ (0 : Int32) w42) else (p_call (fW_isWithin (5 : Int32) (Int32.toInt64 l4_24) w42) <| p_kI fun v52 w52 => if ¬ v52 = 0 then ((p_getR w52 l0 3 1).bind fun v61 => p_call (fSettings_slotOf l2 (-1 : Int32) w52) <| p_kI fun v66 w66 => (p_obj w66 v61 7).bind fun _ => p_call (fSettings_hold v61 v66 (4 : Int32) v7 w66) <| p_kV fun w71 => (p_getR w71 l0 3 1).bind fun v75 => p_call (fSettings_slotOf l2 (-1 : Int32) w71) <| p_kI fun v80 w80 => (p_obj w80 v75 7).bind fun _ => p_call (fSettings_hold v75 v80 (5 : Int32) l4_24 w80) <| p_kV fun w86 => p_retZ (1 : Int32) w86) else (p_retZ (0 : Int32) w52)))
set_option maxRecDepth 20000 in
set_option maxHeartbeats 2000000 in
theorem t_fHeadReader_keepStyleForAll {Γ : PG} : ∀ (l0 : Nat) (l1 : Int32) (l2 : Int32) (w : PW), EE Γ MHeadReader_keepStyleForAll 0 (lv_args 0 [.ref l0, .int l1, .int l2]) [] w (fHeadReader_keepStyleForAll l0 l1 l2 w) := by
  intro l0 l1 l2 w
  unfold fHeadReader_keepStyleForAll
  show EE Γ MHeadReader_keepStyleForAll 0 [(0, .ref l0), (1, .int l1), (2, .int l2)] [] w _
  refine ee_aload_n 0 dHeadReader_keepStyleForAll_0 rfl ?_
  refine ee_getR dHeadReader_keepStyleForAll_1 lfHeadReader_15 (fun v1 _ => ?_)
  refine ee_iload_n 1 dHeadReader_keepStyleForAll_4 rfl ?_
  refine ee_iconst (v := (5 : Int32)) dHeadReader_keepStyleForAll_5 (by decide) ?_
  refine ee_iadd dHeadReader_keepStyleForAll_6 ?_
  refine ee_bind (fun _ ho7 => ?_)
  refine ee_callV (as := [.int (l1 + (5 : Int32))]) (st := []) dHeadReader_keepStyleForAll_7 (t_fBytes_get v1 (l1 + (5 : Int32)) w) my_fBytes_get.1 (Nat.le_of_ble_eq_true rfl) my_fBytes_get.2 rfl cf_2.1 rfl (p_obj_eq.mp ho7) gw_593 gw_459 gw_460 ⟨Nat.le_of_ble_eq_true rfl, Nat.le_of_ble_eq_true rfl⟩ (Nat.le_of_ble_eq_true rfl) (fun rv7 w7 _ => ?_)
  refine ee_kI (fun v7 => ?_)
  refine ee_istore_n (lv2 := [(3, .int v7), (0, .ref l0), (1, .int l1), (2, .int l2)]) dHeadReader_keepStyleForAll_10 (Nat.le_of_ble_eq_true rfl) rfl ?_
  refine ee_aload_n 1 dHeadReader_keepStyleForAll_11 rfl ?_
  refine ee_getR dHeadReader_keepStyleForAll_12 lfHeadReader_15 (fun v12 _ => ?_)
  refine ee_iload_n 2 dHeadReader_keepStyleForAll_15 rfl ?_
  refine ee_bipush (v := (6 : Int32)) dHeadReader_keepStyleForAll_16 (by decide) ?_
  refine ee_iadd dHeadReader_keepStyleForAll_18 ?_
  refine ee_iconst (v := (2 : Int32)) dHeadReader_keepStyleForAll_19 (by decide) ?_
  refine ee_bind (fun _ ho20 => ?_)
  refine ee_callV (as := [.int (l1 + (6 : Int32)), .int (2 : Int32)]) (st := []) dHeadReader_keepStyleForAll_20 (t_fBytes_number v12 (l1 + (6 : Int32)) (2 : Int32) w7) my_fBytes_number.1 (Nat.le_of_ble_eq_true rfl) my_fBytes_number.2 rfl cf_2.1 rfl (p_obj_eq.mp ho20) gw_598 gw_538 gw_539 ⟨Nat.le_of_ble_eq_true rfl, Nat.le_of_ble_eq_true rfl⟩ (Nat.le_of_ble_eq_true rfl) (fun rv20 w20 _ => ?_)
  refine ee_kJ (fun v20 => ?_)
  refine ee_l2i dHeadReader_keepStyleForAll_23 ?_
  refine ee_letI (fun l4_24 _ => ?_)
  refine ee_istore (lv2 := [(4, .int l4_24), (3, .int v7), (0, .ref l0), (1, .int l1), (2, .int l2)]) dHeadReader_keepStyleForAll_24 (Nat.le_of_ble_eq_true rfl) rfl ?_
  refine ee_aload_n 2 dHeadReader_keepStyleForAll_26 rfl ?_
  refine ee_getR dHeadReader_keepStyleForAll_27 lfHeadReader_15 (fun v27 _ => ?_)
  refine ee_iload_n 3 dHeadReader_keepStyleForAll_30 rfl ?_
  refine ee_iconst (v := (4 : Int32)) dHeadReader_keepStyleForAll_31 (by decide) ?_
  refine ee_iadd dHeadReader_keepStyleForAll_32 ?_
  refine ee_bind (fun _ ho33 => ?_)
  refine ee_callV (as := [.int (l1 + (4 : Int32))]) (st := []) dHeadReader_keepStyleForAll_33 (t_fBytes_get v27 (l1 + (4 : Int32)) w20) my_fBytes_get.1 (Nat.le_of_ble_eq_true rfl) my_fBytes_get.2 rfl cf_2.1 rfl (p_obj_eq.mp ho33) gw_593 gw_459 gw_460 ⟨Nat.le_of_ble_eq_true rfl, Nat.le_of_ble_eq_true rfl⟩ (Nat.le_of_ble_eq_true rfl) (fun rv33 w33 _ => ?_)
  refine ee_kI (fun v33 => ?_)
  refine ee_if_ne (tgt := 58) dHeadReader_keepStyleForAll_36 (by decide) (fun h36 => ?_) (fun h36 => ?_)
  · refine ee_iconst (v := (0 : Int32)) dHeadReader_keepStyleForAll_58 (by decide) ?_
    exact ee_zret rfl dHeadReader_keepStyleForAll_59
  · refine ee_iconst (v := (4 : Int32)) dHeadReader_keepStyleForAll_39 (by decide) ?_
    refine ee_iload_n 1 dHeadReader_keepStyleForAll_40 rfl ?_
    refine ee_i2l dHeadReader_keepStyleForAll_41 ?_
    refine ee_callSN (as := [.int (4 : Int32), .long (Int32.toInt64 v7)]) (st := []) dHeadReader_keepStyleForAll_42 (t_fW_isWithin (4 : Int32) (Int32.toInt64 v7) w33) my_fW_isWithin.1 (Nat.le_of_ble_eq_true rfl) my_fW_isWithin.2 rfl gw_603 gw_604 ⟨Nat.le_of_ble_eq_true rfl, Nat.le_of_ble_eq_true rfl⟩ (Nat.le_of_ble_eq_true rfl) (fun rv42 w42 _ => ?_)
    refine ee_kI (fun v42 => ?_)
    refine ee_if_eq (tgt := 58) dHeadReader_keepStyleForAll_45 (by decide) (fun h45 => ?_) (fun h45 => ?_)
    · refine ee_iconst (v := (0 : Int32)) dHeadReader_keepStyleForAll_58 (by decide) ?_
      exact ee_zret rfl dHeadReader_keepStyleForAll_59
    · refine ee_iconst (v := (5 : Int32)) dHeadReader_keepStyleForAll_48 (by decide) ?_
      refine ee_iload 0 dHeadReader_keepStyleForAll_49 rfl ?_
      refine ee_i2l dHeadReader_keepStyleForAll_51 ?_
      refine ee_callSN (as := [.int (5 : Int32), .long (Int32.toInt64 l4_24)]) (st := []) dHeadReader_keepStyleForAll_52 (t_fW_isWithin (5 : Int32) (Int32.toInt64 l4_24) w42) my_fW_isWithin.1 (Nat.le_of_ble_eq_true rfl) my_fW_isWithin.2 rfl gw_603 gw_604 ⟨Nat.le_of_ble_eq_true rfl, Nat.le_of_ble_eq_true rfl⟩ (Nat.le_of_ble_eq_true rfl) (fun rv52 w52 _ => ?_)
      refine ee_kI (fun v52 => ?_)
      refine ee_if_ne (tgt := 60) dHeadReader_keepStyleForAll_55 (by decide) (fun h55 => ?_) (fun h55 => ?_)
      · refine ee_aload_n 2 dHeadReader_keepStyleForAll_60 rfl ?_
        refine ee_getR dHeadReader_keepStyleForAll_61 lfHeadReader_19 (fun v61 _ => ?_)
        refine ee_iload_n 4 dHeadReader_keepStyleForAll_64 rfl ?_
        refine ee_iconst (v := (-1 : Int32)) dHeadReader_keepStyleForAll_65 (by decide) ?_
        refine ee_callS (as := [.int l2, .int (-1 : Int32)]) (st := [.ref v61]) dHeadReader_keepStyleForAll_66 (t_fSettings_slotOf l2 (-1 : Int32) w52) my_fSettings_slotOf.1 (Nat.le_of_ble_eq_true rfl) my_fSettings_slotOf.2 rfl gw_650 gw_426 ⟨Nat.le_of_ble_eq_true rfl, Nat.le_of_ble_eq_true rfl⟩ (Nat.le_of_ble_eq_true rfl) (fun rv66 w66 _ => ?_)
        refine ee_kI (fun v66 => ?_)
        refine ee_iconst (v := (4 : Int32)) dHeadReader_keepStyleForAll_69 (by decide) ?_
        refine ee_iload_n 1 dHeadReader_keepStyleForAll_70 rfl ?_
        refine ee_bind (fun _ ho71 => ?_)
        refine ee_callV (as := [.int v66, .int (4 : Int32), .int v7]) (st := []) dHeadReader_keepStyleForAll_71 (t_fSettings_hold v61 v66 (4 : Int32) v7 w66) my_fSettings_hold.1 (Nat.le_of_ble_eq_true rfl) my_fSettings_hold.2 rfl cf_7.1 rfl (p_obj_eq.mp ho71) gw_651 gw_316 gw_317 ⟨Nat.le_of_ble_eq_true rfl, Nat.le_of_ble_eq_true rfl⟩ (Nat.le_of_ble_eq_true rfl) (fun rv71 w71 _ => ?_)
        refine ee_kV ?_
        refine ee_aload_n 2 dHeadReader_keepStyleForAll_74 rfl ?_
        refine ee_getR dHeadReader_keepStyleForAll_75 lfHeadReader_19 (fun v75 _ => ?_)
        refine ee_iload_n 4 dHeadReader_keepStyleForAll_78 rfl ?_
        refine ee_iconst (v := (-1 : Int32)) dHeadReader_keepStyleForAll_79 (by decide) ?_
        refine ee_callS (as := [.int l2, .int (-1 : Int32)]) (st := [.ref v75]) dHeadReader_keepStyleForAll_80 (t_fSettings_slotOf l2 (-1 : Int32) w71) my_fSettings_slotOf.1 (Nat.le_of_ble_eq_true rfl) my_fSettings_slotOf.2 rfl gw_650 gw_426 ⟨Nat.le_of_ble_eq_true rfl, Nat.le_of_ble_eq_true rfl⟩ (Nat.le_of_ble_eq_true rfl) (fun rv80 w80 _ => ?_)
        refine ee_kI (fun v80 => ?_)
        refine ee_iconst (v := (5 : Int32)) dHeadReader_keepStyleForAll_83 (by decide) ?_
        refine ee_iload 0 dHeadReader_keepStyleForAll_84 rfl ?_
        refine ee_bind (fun _ ho86 => ?_)
        refine ee_callV (as := [.int v80, .int (5 : Int32), .int l4_24]) (st := []) dHeadReader_keepStyleForAll_86 (t_fSettings_hold v75 v80 (5 : Int32) l4_24 w80) my_fSettings_hold.1 (Nat.le_of_ble_eq_true rfl) my_fSettings_hold.2 rfl cf_7.1 rfl (p_obj_eq.mp ho86) gw_651 gw_316 gw_317 ⟨Nat.le_of_ble_eq_true rfl, Nat.le_of_ble_eq_true rfl⟩ (Nat.le_of_ble_eq_true rfl) (fun rv86 w86 _ => ?_)
        refine ee_kV ?_
        refine ee_iconst (v := (1 : Int32)) dHeadReader_keepStyleForAll_89 (by decide) ?_
        exact ee_zret rfl dHeadReader_keepStyleForAll_90
      · refine ee_iconst (v := (0 : Int32)) dHeadReader_keepStyleForAll_58 (by decide) ?_
        exact ee_zret rfl dHeadReader_keepStyleForAll_59
def fHeadReader_keepStyle_83 (l0 : Nat) (l2 : Int32) (l3 : Int32) (l4 : Int32) (l5 : Int32) (s0 : Int32) (w : PW) : PX := if s0 = 0 then (p_retZ (0 : Int32) w) else (p_call (fW_isWithin (6 : Int32) (Int32.toInt64 l3) w) <| p_kI fun v94 w94 => if v94 = 0 then (p_retZ (0 : Int32) w94) else (p_call (fW_isWithin (7 : Int32) (Int32.toInt64 l4) w94) <| p_kI fun v105 w105 => if v105 = 0 then (p_retZ (0 : Int32) w105) else (p_call (fW_isWithin (8 : Int32) (Int32.toInt64 l5) w105) <| p_kI fun v116 w116 => if ¬ v116 = 0 then ((p_getR w116 l0 3 1).bind fun v125 => (p_obj w116 v125 7).bind fun _ => p_call (fSettings_hold v125 l2 (6 : Int32) l3 w116) <| p_kV fun w132 => (p_getR w132 l0 3 1).bind fun v136 => (p_obj w132 v136 7).bind fun _ => p_call (fSettings_hold v136 l2 (7 : Int32) l4 w132) <| p_kV fun w144 => (p_getR w144 l0 3 1).bind fun v148 => (p_obj w144 v148 7).bind fun _ => p_call (fSettings_hold v148 l2 (8 : Int32) l5 w144) <| p_kV fun w156 => p_retZ (1 : Int32) w156) else (p_retZ (0 : Int32) w116))))
set_option maxRecDepth 20000 in
set_option maxHeartbeats 2000000 in
theorem t_fHeadReader_keepStyle_83 {Γ : PG} : ∀ (l0 : Nat) (l2 : Int32) (l3 : Int32) (l4 : Int32) (l5 : Int32) (s0 : Int32) (w : PW), EE Γ MHeadReader_keepStyle 83 [(0, .ref l0), (2, .int l2), (3, .int l3), (4, .int l4), (5, .int l5)] [.int s0] w (fHeadReader_keepStyle_83 l0 l2 l3 l4 l5 s0 w) := by
  intro l0 l2 l3 l4 l5 s0 w
  unfold fHeadReader_keepStyle_83
  refine ee_istore (lv2 := [(6, .int s0), (0, .ref l0), (2, .int l2), (3, .int l3), (4, .int l4), (5, .int l5)]) dHeadReader_keepStyle_83 (Nat.le_of_ble_eq_true rfl) rfl ?_
  refine ee_iload 0 dHeadReader_keepStyle_85 rfl ?_
  refine ee_if_eq (tgt := 122) dHeadReader_keepStyle_87 (by decide) (fun h87 => ?_) (fun h87 => ?_)
  · refine ee_iconst (v := (0 : Int32)) dHeadReader_keepStyle_122 (by decide) ?_
    exact ee_zret rfl dHeadReader_keepStyle_123
  · refine ee_bipush (v := (6 : Int32)) dHeadReader_keepStyle_90 (by decide) ?_
    refine ee_iload_n 3 dHeadReader_keepStyle_92 rfl ?_
    refine ee_i2l dHeadReader_keepStyle_93 ?_
    refine ee_callSN (as := [.int (6 : Int32), .long (Int32.toInt64 l3)]) (st := []) dHeadReader_keepStyle_94 (t_fW_isWithin (6 : Int32) (Int32.toInt64 l3) w) my_fW_isWithin.1 (Nat.le_of_ble_eq_true rfl) my_fW_isWithin.2 rfl gw_603 gw_604 ⟨Nat.le_of_ble_eq_true rfl, Nat.le_of_ble_eq_true rfl⟩ (Nat.le_of_ble_eq_true rfl) (fun rv94 w94 _ => ?_)
    refine ee_kI (fun v94 => ?_)
    refine ee_if_eq (tgt := 122) dHeadReader_keepStyle_97 (by decide) (fun h97 => ?_) (fun h97 => ?_)
    · refine ee_iconst (v := (0 : Int32)) dHeadReader_keepStyle_122 (by decide) ?_
      exact ee_zret rfl dHeadReader_keepStyle_123
    · refine ee_bipush (v := (7 : Int32)) dHeadReader_keepStyle_100 (by decide) ?_
      refine ee_iload 4 dHeadReader_keepStyle_102 rfl ?_
      refine ee_i2l dHeadReader_keepStyle_104 ?_
      refine ee_callSN (as := [.int (7 : Int32), .long (Int32.toInt64 l4)]) (st := []) dHeadReader_keepStyle_105 (t_fW_isWithin (7 : Int32) (Int32.toInt64 l4) w94) my_fW_isWithin.1 (Nat.le_of_ble_eq_true rfl) my_fW_isWithin.2 rfl gw_603 gw_604 ⟨Nat.le_of_ble_eq_true rfl, Nat.le_of_ble_eq_true rfl⟩ (Nat.le_of_ble_eq_true rfl) (fun rv105 w105 _ => ?_)
      refine ee_kI (fun v105 => ?_)
      refine ee_if_eq (tgt := 122) dHeadReader_keepStyle_108 (by decide) (fun h108 => ?_) (fun h108 => ?_)
      · refine ee_iconst (v := (0 : Int32)) dHeadReader_keepStyle_122 (by decide) ?_
        exact ee_zret rfl dHeadReader_keepStyle_123
      · refine ee_bipush (v := (8 : Int32)) dHeadReader_keepStyle_111 (by decide) ?_
        refine ee_iload 5 dHeadReader_keepStyle_113 rfl ?_
        refine ee_i2l dHeadReader_keepStyle_115 ?_
        refine ee_callSN (as := [.int (8 : Int32), .long (Int32.toInt64 l5)]) (st := []) dHeadReader_keepStyle_116 (t_fW_isWithin (8 : Int32) (Int32.toInt64 l5) w105) my_fW_isWithin.1 (Nat.le_of_ble_eq_true rfl) my_fW_isWithin.2 rfl gw_603 gw_604 ⟨Nat.le_of_ble_eq_true rfl, Nat.le_of_ble_eq_true rfl⟩ (Nat.le_of_ble_eq_true rfl) (fun rv116 w116 _ => ?_)
        refine ee_kI (fun v116 => ?_)
        refine ee_if_ne (tgt := 124) dHeadReader_keepStyle_119 (by decide) (fun h119 => ?_) (fun h119 => ?_)
        · refine ee_aload_n 1 dHeadReader_keepStyle_124 rfl ?_
          refine ee_getR dHeadReader_keepStyle_125 lfHeadReader_19 (fun v125 _ => ?_)
          refine ee_iload_n 2 dHeadReader_keepStyle_128 rfl ?_
          refine ee_bipush (v := (6 : Int32)) dHeadReader_keepStyle_129 (by decide) ?_
          refine ee_iload_n 3 dHeadReader_keepStyle_131 rfl ?_
          refine ee_bind (fun _ ho132 => ?_)
          refine ee_callV (as := [.int l2, .int (6 : Int32), .int l3]) (st := []) dHeadReader_keepStyle_132 (t_fSettings_hold v125 l2 (6 : Int32) l3 w116) my_fSettings_hold.1 (Nat.le_of_ble_eq_true rfl) my_fSettings_hold.2 rfl cf_7.1 rfl (p_obj_eq.mp ho132) gw_651 gw_316 gw_317 ⟨Nat.le_of_ble_eq_true rfl, Nat.le_of_ble_eq_true rfl⟩ (Nat.le_of_ble_eq_true rfl) (fun rv132 w132 _ => ?_)
          refine ee_kV ?_
          refine ee_aload_n 1 dHeadReader_keepStyle_135 rfl ?_
          refine ee_getR dHeadReader_keepStyle_136 lfHeadReader_19 (fun v136 _ => ?_)
          refine ee_iload_n 2 dHeadReader_keepStyle_139 rfl ?_
          refine ee_bipush (v := (7 : Int32)) dHeadReader_keepStyle_140 (by decide) ?_
          refine ee_iload 4 dHeadReader_keepStyle_142 rfl ?_
          refine ee_bind (fun _ ho144 => ?_)
          refine ee_callV (as := [.int l2, .int (7 : Int32), .int l4]) (st := []) dHeadReader_keepStyle_144 (t_fSettings_hold v136 l2 (7 : Int32) l4 w132) my_fSettings_hold.1 (Nat.le_of_ble_eq_true rfl) my_fSettings_hold.2 rfl cf_7.1 rfl (p_obj_eq.mp ho144) gw_651 gw_316 gw_317 ⟨Nat.le_of_ble_eq_true rfl, Nat.le_of_ble_eq_true rfl⟩ (Nat.le_of_ble_eq_true rfl) (fun rv144 w144 _ => ?_)
          refine ee_kV ?_
          refine ee_aload_n 1 dHeadReader_keepStyle_147 rfl ?_
          refine ee_getR dHeadReader_keepStyle_148 lfHeadReader_19 (fun v148 _ => ?_)
          refine ee_iload_n 2 dHeadReader_keepStyle_151 rfl ?_
          refine ee_bipush (v := (8 : Int32)) dHeadReader_keepStyle_152 (by decide) ?_
          refine ee_iload 5 dHeadReader_keepStyle_154 rfl ?_
          refine ee_bind (fun _ ho156 => ?_)
          refine ee_callV (as := [.int l2, .int (8 : Int32), .int l5]) (st := []) dHeadReader_keepStyle_156 (t_fSettings_hold v148 l2 (8 : Int32) l5 w144) my_fSettings_hold.1 (Nat.le_of_ble_eq_true rfl) my_fSettings_hold.2 rfl cf_7.1 rfl (p_obj_eq.mp ho156) gw_651 gw_316 gw_317 ⟨Nat.le_of_ble_eq_true rfl, Nat.le_of_ble_eq_true rfl⟩ (Nat.le_of_ble_eq_true rfl) (fun rv156 w156 _ => ?_)
          refine ee_kV ?_
          refine ee_iconst (v := (1 : Int32)) dHeadReader_keepStyle_159 (by decide) ?_
          exact ee_zret rfl dHeadReader_keepStyle_160
        · refine ee_iconst (v := (0 : Int32)) dHeadReader_keepStyle_122 (by decide) ?_
          exact ee_zret rfl dHeadReader_keepStyle_123
def fHeadReader_keepStyle (l0 : Nat) (l1 : Int32) (l2 : Int32) (w : PW) : PX := (p_getR w l0 3 0).bind fun v1 => (p_obj w v1 2).bind fun _ => p_call (fBytes_get v1 (l1 + (1 : Int32)) w) <| p_kI fun v7 w7 => (p_getR w7 l0 3 0).bind fun v12 => (p_obj w7 v12 2).bind fun _ => p_call (fBytes_get v12 (l1 + (2 : Int32)) w7) <| p_kI fun v18 w18 => p_let ((v18 + (2 : Int32))) fun (l4_23 : Int32) => (p_getR w18 l0 3 0).bind fun v26 => (p_obj w18 v26 2).bind fun _ => p_call (fBytes_get v26 (l1 + (5 : Int32)) w18) <| p_kI fun v32 w32 => (p_getR w32 l0 3 0).bind fun v38 => (p_obj w32 v38 2).bind fun _ => p_call (fBytes_get v38 l1 w32) <| p_kI fun v42 w42 => if ¬ v42 = 0 then (fHeadReader_keepStyle_83 l0 l2 v7 l4_23 v32 (0 : Int32) w42) else ((p_getR w42 l0 3 0).bind fun v49 => (p_obj w42 v49 2).bind fun _ => p_call (fBytes_get v49 (l1 + (3 : Int32)) w42) <| p_kI fun v55 w55 => if ¬ (v55 + (2 : Int32)) = l4_23 then (fHeadReader_keepStyle_83 l0 l2 v7 l4_23 v32 (0 : Int32) w55) else ((p_getR w55 l0 3 0).bind fun v66 => (p_obj w55 v66 2).bind fun _ => p_call (fBytes_get v66 (l1 + (4 : Int32)) w55) <| p_kI fun v72 w72 => if ¬ v72 = 0 then (fHeadReader_keepStyle_83 l0 l2 v7 l4_23 v32 (0 : Int32) w72) else (fHeadReader_keepStyle_83 l0 l2 v7 l4_23 v32 (1 : Int32) w72)))
set_option maxRecDepth 20000 in
set_option maxHeartbeats 2000000 in
theorem t_fHeadReader_keepStyle {Γ : PG} : ∀ (l0 : Nat) (l1 : Int32) (l2 : Int32) (w : PW), EE Γ MHeadReader_keepStyle 0 (lv_args 0 [.ref l0, .int l1, .int l2]) [] w (fHeadReader_keepStyle l0 l1 l2 w) := by
  intro l0 l1 l2 w
  unfold fHeadReader_keepStyle
  show EE Γ MHeadReader_keepStyle 0 [(0, .ref l0), (1, .int l1), (2, .int l2)] [] w _
  refine ee_aload_n 0 dHeadReader_keepStyle_0 rfl ?_
  refine ee_getR dHeadReader_keepStyle_1 lfHeadReader_15 (fun v1 _ => ?_)
  refine ee_iload_n 1 dHeadReader_keepStyle_4 rfl ?_
  refine ee_iconst (v := (1 : Int32)) dHeadReader_keepStyle_5 (by decide) ?_
  refine ee_iadd dHeadReader_keepStyle_6 ?_
  refine ee_bind (fun _ ho7 => ?_)
  refine ee_callV (as := [.int (l1 + (1 : Int32))]) (st := []) dHeadReader_keepStyle_7 (t_fBytes_get v1 (l1 + (1 : Int32)) w) my_fBytes_get.1 (Nat.le_of_ble_eq_true rfl) my_fBytes_get.2 rfl cf_2.1 rfl (p_obj_eq.mp ho7) gw_593 gw_459 gw_460 ⟨Nat.le_of_ble_eq_true rfl, Nat.le_of_ble_eq_true rfl⟩ (Nat.le_of_ble_eq_true rfl) (fun rv7 w7 _ => ?_)
  refine ee_kI (fun v7 => ?_)
  refine ee_istore_n (lv2 := [(3, .int v7), (0, .ref l0), (1, .int l1), (2, .int l2)]) dHeadReader_keepStyle_10 (Nat.le_of_ble_eq_true rfl) rfl ?_
  refine ee_aload_n 1 dHeadReader_keepStyle_11 rfl ?_
  refine ee_getR dHeadReader_keepStyle_12 lfHeadReader_15 (fun v12 _ => ?_)
  refine ee_iload_n 2 dHeadReader_keepStyle_15 rfl ?_
  refine ee_iconst (v := (2 : Int32)) dHeadReader_keepStyle_16 (by decide) ?_
  refine ee_iadd dHeadReader_keepStyle_17 ?_
  refine ee_bind (fun _ ho18 => ?_)
  refine ee_callV (as := [.int (l1 + (2 : Int32))]) (st := []) dHeadReader_keepStyle_18 (t_fBytes_get v12 (l1 + (2 : Int32)) w7) my_fBytes_get.1 (Nat.le_of_ble_eq_true rfl) my_fBytes_get.2 rfl cf_2.1 rfl (p_obj_eq.mp ho18) gw_593 gw_459 gw_460 ⟨Nat.le_of_ble_eq_true rfl, Nat.le_of_ble_eq_true rfl⟩ (Nat.le_of_ble_eq_true rfl) (fun rv18 w18 _ => ?_)
  refine ee_kI (fun v18 => ?_)
  refine ee_iconst (v := (2 : Int32)) dHeadReader_keepStyle_21 (by decide) ?_
  refine ee_iadd dHeadReader_keepStyle_22 ?_
  refine ee_letI (fun l4_23 _ => ?_)
  refine ee_istore (lv2 := [(4, .int l4_23), (3, .int v7), (0, .ref l0), (1, .int l1), (2, .int l2)]) dHeadReader_keepStyle_23 (Nat.le_of_ble_eq_true rfl) rfl ?_
  refine ee_aload_n 2 dHeadReader_keepStyle_25 rfl ?_
  refine ee_getR dHeadReader_keepStyle_26 lfHeadReader_15 (fun v26 _ => ?_)
  refine ee_iload_n 3 dHeadReader_keepStyle_29 rfl ?_
  refine ee_iconst (v := (5 : Int32)) dHeadReader_keepStyle_30 (by decide) ?_
  refine ee_iadd dHeadReader_keepStyle_31 ?_
  refine ee_bind (fun _ ho32 => ?_)
  refine ee_callV (as := [.int (l1 + (5 : Int32))]) (st := []) dHeadReader_keepStyle_32 (t_fBytes_get v26 (l1 + (5 : Int32)) w18) my_fBytes_get.1 (Nat.le_of_ble_eq_true rfl) my_fBytes_get.2 rfl cf_2.1 rfl (p_obj_eq.mp ho32) gw_593 gw_459 gw_460 ⟨Nat.le_of_ble_eq_true rfl, Nat.le_of_ble_eq_true rfl⟩ (Nat.le_of_ble_eq_true rfl) (fun rv32 w32 _ => ?_)
  refine ee_kI (fun v32 => ?_)
  refine ee_istore (lv2 := [(5, .int v32), (4, .int l4_23), (3, .int v7), (0, .ref l0), (1, .int l1), (2, .int l2)]) dHeadReader_keepStyle_35 (Nat.le_of_ble_eq_true rfl) rfl ?_
  refine ee_aload_n 3 dHeadReader_keepStyle_37 rfl ?_
  refine ee_getR dHeadReader_keepStyle_38 lfHeadReader_15 (fun v38 _ => ?_)
  refine ee_iload_n 4 dHeadReader_keepStyle_41 rfl ?_
  refine ee_bind (fun _ ho42 => ?_)
  refine ee_callV (as := [.int l1]) (st := []) dHeadReader_keepStyle_42 (t_fBytes_get v38 l1 w32) my_fBytes_get.1 (Nat.le_of_ble_eq_true rfl) my_fBytes_get.2 rfl cf_2.1 rfl (p_obj_eq.mp ho42) gw_593 gw_459 gw_460 ⟨Nat.le_of_ble_eq_true rfl, Nat.le_of_ble_eq_true rfl⟩ (Nat.le_of_ble_eq_true rfl) (fun rv42 w42 _ => ?_)
  refine ee_kI (fun v42 => ?_)
  refine ee_if_ne (tgt := 82) dHeadReader_keepStyle_45 (by decide) (fun h45 => ?_) (fun h45 => ?_)
  · refine ee_iconst (v := (0 : Int32)) dHeadReader_keepStyle_82 (by decide) ?_
    refine ee_pick [3, 5, 2, 1, 0] rfl ?_
    exact t_fHeadReader_keepStyle_83 _ _ _ _ _ _ w42
  · refine ee_aload_n 3 dHeadReader_keepStyle_48 rfl ?_
    refine ee_getR dHeadReader_keepStyle_49 lfHeadReader_15 (fun v49 _ => ?_)
    refine ee_iload_n 4 dHeadReader_keepStyle_52 rfl ?_
    refine ee_iconst (v := (3 : Int32)) dHeadReader_keepStyle_53 (by decide) ?_
    refine ee_iadd dHeadReader_keepStyle_54 ?_
    refine ee_bind (fun _ ho55 => ?_)
    refine ee_callV (as := [.int (l1 + (3 : Int32))]) (st := []) dHeadReader_keepStyle_55 (t_fBytes_get v49 (l1 + (3 : Int32)) w42) my_fBytes_get.1 (Nat.le_of_ble_eq_true rfl) my_fBytes_get.2 rfl cf_2.1 rfl (p_obj_eq.mp ho55) gw_593 gw_459 gw_460 ⟨Nat.le_of_ble_eq_true rfl, Nat.le_of_ble_eq_true rfl⟩ (Nat.le_of_ble_eq_true rfl) (fun rv55 w55 _ => ?_)
    refine ee_kI (fun v55 => ?_)
    refine ee_iconst (v := (2 : Int32)) dHeadReader_keepStyle_58 (by decide) ?_
    refine ee_iadd dHeadReader_keepStyle_59 ?_
    refine ee_iload 1 dHeadReader_keepStyle_60 rfl ?_
    refine ee_icmp_ne (tgt := 82) dHeadReader_keepStyle_62 (by decide) (fun h62 => ?_) (fun h62 => ?_)
    · refine ee_iconst (v := (0 : Int32)) dHeadReader_keepStyle_82 (by decide) ?_
      refine ee_pick [3, 5, 2, 1, 0] rfl ?_
      exact t_fHeadReader_keepStyle_83 _ _ _ _ _ _ w55
    · refine ee_aload_n 3 dHeadReader_keepStyle_65 rfl ?_
      refine ee_getR dHeadReader_keepStyle_66 lfHeadReader_15 (fun v66 _ => ?_)
      refine ee_iload_n 4 dHeadReader_keepStyle_69 rfl ?_
      refine ee_iconst (v := (4 : Int32)) dHeadReader_keepStyle_70 (by decide) ?_
      refine ee_iadd dHeadReader_keepStyle_71 ?_
      refine ee_bind (fun _ ho72 => ?_)
      refine ee_callV (as := [.int (l1 + (4 : Int32))]) (st := []) dHeadReader_keepStyle_72 (t_fBytes_get v66 (l1 + (4 : Int32)) w55) my_fBytes_get.1 (Nat.le_of_ble_eq_true rfl) my_fBytes_get.2 rfl cf_2.1 rfl (p_obj_eq.mp ho72) gw_593 gw_459 gw_460 ⟨Nat.le_of_ble_eq_true rfl, Nat.le_of_ble_eq_true rfl⟩ (Nat.le_of_ble_eq_true rfl) (fun rv72 w72 _ => ?_)
      refine ee_kI (fun v72 => ?_)
      refine ee_if_ne (tgt := 82) dHeadReader_keepStyle_75 (by decide) (fun h75 => ?_) (fun h75 => ?_)
      · refine ee_iconst (v := (0 : Int32)) dHeadReader_keepStyle_82 (by decide) ?_
        refine ee_pick [3, 5, 2, 1, 0] rfl ?_
        exact t_fHeadReader_keepStyle_83 _ _ _ _ _ _ w72
      · refine ee_iconst (v := (1 : Int32)) dHeadReader_keepStyle_78 (by decide) ?_
        refine ee_goto (tgt := 83) dHeadReader_keepStyle_79 (by decide) ?_
        refine ee_pick [3, 5, 2, 1, 0] rfl ?_
        exact t_fHeadReader_keepStyle_83 _ _ _ _ _ _ w72
def fHeadReader_keepStep (l0 : Nat) (l1 : Int32) (l2 : Int32) (w : PW) : PX := (p_getR w l0 3 0).bind fun v1 => (p_obj w v1 2).bind fun _ => p_call (fBytes_get v1 l1 w) <| p_kI fun v5 w5 => (p_getR w5 l0 3 0).bind fun v10 => (p_obj w5 v10 2).bind fun _ => p_call (fBytes_number v10 (l1 + (1 : Int32)) (2 : Int32) w5) <| p_kJ fun v17 w17 => p_let ((Int64.toInt32 v17)) fun (l4_21 : Int32) => (p_irem v5 (32 : Int32)).bind fun v26 => if ¬ v26 = (1 : Int32) then (p_retZ (0 : Int32) w17) else ((p_irem l4_21 (2048 : Int32)).bind fun v36 => if v36 = 0 then ((p_getR w17 l0 3 1).bind fun v43 => (p_idiv v5 (32 : Int32)).bind fun v52 => (p_obj w17 v43 7).bind fun _ => p_call (fSettings_hold v43 l2 (10 : Int32) v52 w17) <| p_kV fun w53 => (p_getR w53 l0 3 1).bind fun v57 => (p_idiv l4_21 (2048 : Int32)).bind fun v68 => (p_obj w53 v57 7).bind fun _ => p_call (fSettings_hold v57 l2 (9 : Int32) v68 w53) <| p_kV fun w69 => p_retZ (1 : Int32) w69) else (p_retZ (0 : Int32) w17))
set_option maxRecDepth 20000 in
set_option maxHeartbeats 2000000 in
theorem t_fHeadReader_keepStep {Γ : PG} : ∀ (l0 : Nat) (l1 : Int32) (l2 : Int32) (w : PW), EE Γ MHeadReader_keepStep 0 (lv_args 0 [.ref l0, .int l1, .int l2]) [] w (fHeadReader_keepStep l0 l1 l2 w) := by
  intro l0 l1 l2 w
  unfold fHeadReader_keepStep
  show EE Γ MHeadReader_keepStep 0 [(0, .ref l0), (1, .int l1), (2, .int l2)] [] w _
  refine ee_aload_n 0 dHeadReader_keepStep_0 rfl ?_
  refine ee_getR dHeadReader_keepStep_1 lfHeadReader_15 (fun v1 _ => ?_)
  refine ee_iload_n 1 dHeadReader_keepStep_4 rfl ?_
  refine ee_bind (fun _ ho5 => ?_)
  refine ee_callV (as := [.int l1]) (st := []) dHeadReader_keepStep_5 (t_fBytes_get v1 l1 w) my_fBytes_get.1 (Nat.le_of_ble_eq_true rfl) my_fBytes_get.2 rfl cf_2.1 rfl (p_obj_eq.mp ho5) gw_593 gw_459 gw_460 ⟨Nat.le_of_ble_eq_true rfl, Nat.le_of_ble_eq_true rfl⟩ (Nat.le_of_ble_eq_true rfl) (fun rv5 w5 _ => ?_)
  refine ee_kI (fun v5 => ?_)
  refine ee_istore_n (lv2 := [(3, .int v5), (0, .ref l0), (1, .int l1), (2, .int l2)]) dHeadReader_keepStep_8 (Nat.le_of_ble_eq_true rfl) rfl ?_
  refine ee_aload_n 1 dHeadReader_keepStep_9 rfl ?_
  refine ee_getR dHeadReader_keepStep_10 lfHeadReader_15 (fun v10 _ => ?_)
  refine ee_iload_n 2 dHeadReader_keepStep_13 rfl ?_
  refine ee_iconst (v := (1 : Int32)) dHeadReader_keepStep_14 (by decide) ?_
  refine ee_iadd dHeadReader_keepStep_15 ?_
  refine ee_iconst (v := (2 : Int32)) dHeadReader_keepStep_16 (by decide) ?_
  refine ee_bind (fun _ ho17 => ?_)
  refine ee_callV (as := [.int (l1 + (1 : Int32)), .int (2 : Int32)]) (st := []) dHeadReader_keepStep_17 (t_fBytes_number v10 (l1 + (1 : Int32)) (2 : Int32) w5) my_fBytes_number.1 (Nat.le_of_ble_eq_true rfl) my_fBytes_number.2 rfl cf_2.1 rfl (p_obj_eq.mp ho17) gw_598 gw_538 gw_539 ⟨Nat.le_of_ble_eq_true rfl, Nat.le_of_ble_eq_true rfl⟩ (Nat.le_of_ble_eq_true rfl) (fun rv17 w17 _ => ?_)
  refine ee_kJ (fun v17 => ?_)
  refine ee_l2i dHeadReader_keepStep_20 ?_
  refine ee_letI (fun l4_21 _ => ?_)
  refine ee_istore (lv2 := [(4, .int l4_21), (3, .int v5), (0, .ref l0), (1, .int l1), (2, .int l2)]) dHeadReader_keepStep_21 (Nat.le_of_ble_eq_true rfl) rfl ?_
  refine ee_iload_n 1 dHeadReader_keepStep_23 rfl ?_
  refine ee_bipush (v := (32 : Int32)) dHeadReader_keepStep_24 (by decide) ?_
  refine ee_irem dHeadReader_keepStep_26 (fun v26 _ => ?_)
  refine ee_iconst (v := (1 : Int32)) dHeadReader_keepStep_27 (by decide) ?_
  refine ee_icmp_ne (tgt := 40) dHeadReader_keepStep_28 (by decide) (fun h28 => ?_) (fun h28 => ?_)
  · refine ee_iconst (v := (0 : Int32)) dHeadReader_keepStep_40 (by decide) ?_
    exact ee_zret rfl dHeadReader_keepStep_41
  · refine ee_iload 0 dHeadReader_keepStep_31 rfl ?_
    refine ee_sipush (v := (2048 : Int32)) dHeadReader_keepStep_33 (by decide) ?_
    refine ee_irem dHeadReader_keepStep_36 (fun v36 _ => ?_)
    refine ee_if_eq (tgt := 42) dHeadReader_keepStep_37 (by decide) (fun h37 => ?_) (fun h37 => ?_)
    · refine ee_aload_n 2 dHeadReader_keepStep_42 rfl ?_
      refine ee_getR dHeadReader_keepStep_43 lfHeadReader_19 (fun v43 _ => ?_)
      refine ee_iload_n 4 dHeadReader_keepStep_46 rfl ?_
      refine ee_bipush (v := (10 : Int32)) dHeadReader_keepStep_47 (by decide) ?_
      refine ee_iload_n 1 dHeadReader_keepStep_49 rfl ?_
      refine ee_bipush (v := (32 : Int32)) dHeadReader_keepStep_50 (by decide) ?_
      refine ee_idiv dHeadReader_keepStep_52 (fun v52 _ => ?_)
      refine ee_bind (fun _ ho53 => ?_)
      refine ee_callV (as := [.int l2, .int (10 : Int32), .int v52]) (st := []) dHeadReader_keepStep_53 (t_fSettings_hold v43 l2 (10 : Int32) v52 w17) my_fSettings_hold.1 (Nat.le_of_ble_eq_true rfl) my_fSettings_hold.2 rfl cf_7.1 rfl (p_obj_eq.mp ho53) gw_651 gw_316 gw_317 ⟨Nat.le_of_ble_eq_true rfl, Nat.le_of_ble_eq_true rfl⟩ (Nat.le_of_ble_eq_true rfl) (fun rv53 w53 _ => ?_)
      refine ee_kV ?_
      refine ee_aload_n 2 dHeadReader_keepStep_56 rfl ?_
      refine ee_getR dHeadReader_keepStep_57 lfHeadReader_19 (fun v57 _ => ?_)
      refine ee_iload_n 4 dHeadReader_keepStep_60 rfl ?_
      refine ee_bipush (v := (9 : Int32)) dHeadReader_keepStep_61 (by decide) ?_
      refine ee_iload 0 dHeadReader_keepStep_63 rfl ?_
      refine ee_sipush (v := (2048 : Int32)) dHeadReader_keepStep_65 (by decide) ?_
      refine ee_idiv dHeadReader_keepStep_68 (fun v68 _ => ?_)
      refine ee_bind (fun _ ho69 => ?_)
      refine ee_callV (as := [.int l2, .int (9 : Int32), .int v68]) (st := []) dHeadReader_keepStep_69 (t_fSettings_hold v57 l2 (9 : Int32) v68 w53) my_fSettings_hold.1 (Nat.le_of_ble_eq_true rfl) my_fSettings_hold.2 rfl cf_7.1 rfl (p_obj_eq.mp ho69) gw_651 gw_316 gw_317 ⟨Nat.le_of_ble_eq_true rfl, Nat.le_of_ble_eq_true rfl⟩ (Nat.le_of_ble_eq_true rfl) (fun rv69 w69 _ => ?_)
      refine ee_kV ?_
      refine ee_iconst (v := (1 : Int32)) dHeadReader_keepStep_72 (by decide) ?_
      exact ee_zret rfl dHeadReader_keepStep_73
    · refine ee_iconst (v := (0 : Int32)) dHeadReader_keepStep_40 (by decide) ?_
      exact ee_zret rfl dHeadReader_keepStep_41
def fHeadReader_keepSegment (l0 : Nat) (l1 : Int32) (l2 : Int32) (l3 : Int32) (w : PW) : PX := (p_getR w l0 3 0).bind fun v1 => (p_obj w v1 2).bind fun _ => p_call (fBytes_get v1 (l1 + (1 : Int32)) w) <| p_kI fun v7 w7 => if v7 = (82 : Int32) then (if ¬ (l2 - l1) = (14 : Int32) then (p_retZ (0 : Int32) w7) else ((p_obj w7 l0 3).bind fun _ => p_call (fHeadReader_keepStyleForAll l0 l1 l3 w7) <| p_kI fun v63 w63 => if v63 = 0 then (p_retZ (0 : Int32) w63) else (p_call (fSettings_slotOf l3 (-1 : Int32) w63) <| p_kI fun v76 w76 => (p_obj w76 l0 3).bind fun _ => p_call (fHeadReader_keepStyle l0 (l1 + (8 : Int32)) v76 w76) <| p_kI fun v79 w79 => if v79 = 0 then (p_retZ (0 : Int32) w79) else (p_retZ (1 : Int32) w79)))) else if v7 = (83 : Int32) then (if ¬ (l2 - l1) = (11 : Int32) then (p_retZ (0 : Int32) w7) else ((p_getR w7 l0 3 1).bind fun v100 => (p_getR w7 l0 3 0).bind fun v104 => (p_obj w7 v104 2).bind fun _ => p_call (fBytes_get v104 (l1 + (4 : Int32)) w7) <| p_kI fun v110 w110 => (p_obj w110 v100 7).bind fun _ => p_call (fSettings_isComponent v100 v110 w110) <| p_kI fun v113 w113 => if v113 = 0 then (p_retZ (0 : Int32) w113) else ((p_getR w113 l0 3 0).bind fun v125 => (p_obj w113 v125 2).bind fun _ => p_call (fBytes_get v125 (l1 + (4 : Int32)) w113) <| p_kI fun v131 w131 => p_call (fSettings_slotOf l3 v131 w131) <| p_kI fun v134 w134 => (p_obj w134 l0 3).bind fun _ => p_call (fHeadReader_keepStyle l0 (l1 + (5 : Int32)) v134 w134) <| p_kI fun v137 w137 => if v137 = 0 then (p_retZ (0 : Int32) w137) else (p_retZ (1 : Int32) w137)))) else if v7 = (92 : Int32) then (if ¬ (l2 - l1) = (7 : Int32) then (p_retZ (0 : Int32) w7) else (p_call (fSettings_slotOf l3 (-1 : Int32) w7) <| p_kI fun v163 w163 => (p_obj w163 l0 3).bind fun _ => p_call (fHeadReader_keepStep l0 (l1 + (4 : Int32)) v163 w163) <| p_kI fun v166 w166 => if v166 = 0 then (p_retZ (0 : Int32) w166) else (p_retZ (1 : Int32) w166))) else if v7 = (93 : Int32) then (if ¬ (l2 - l1) = (8 : Int32) then (p_retZ (0 : Int32) w7) else ((p_getR w7 l0 3 1).bind fun v187 => (p_getR w7 l0 3 0).bind fun v191 => (p_obj w7 v191 2).bind fun _ => p_call (fBytes_get v191 (l1 + (4 : Int32)) w7) <| p_kI fun v197 w197 => (p_obj w197 v187 7).bind fun _ => p_call (fSettings_isComponent v187 v197 w197) <| p_kI fun v200 w200 => if v200 = 0 then (p_retZ (0 : Int32) w200) else ((p_getR w200 l0 3 0).bind fun v212 => (p_obj w200 v212 2).bind fun _ => p_call (fBytes_get v212 (l1 + (4 : Int32)) w200) <| p_kI fun v218 w218 => p_call (fSettings_slotOf l3 v218 w218) <| p_kI fun v221 w221 => (p_obj w221 l0 3).bind fun _ => p_call (fHeadReader_keepStep l0 (l1 + (5 : Int32)) v221 w221) <| p_kI fun v224 w224 => if v224 = 0 then (p_retZ (0 : Int32) w224) else (p_retZ (1 : Int32) w224)))) else (p_retZ (1 : Int32) w7)
set_option maxRecDepth 20000 in
set_option maxHeartbeats 2000000 in
theorem t_fHeadReader_keepSegment {Γ : PG} : ∀ (l0 : Nat) (l1 : Int32) (l2 : Int32) (l3 : Int32) (w : PW), EE Γ MHeadReader_keepSegment 0 (lv_args 0 [.ref l0, .int l1, .int l2, .int l3]) [] w (fHeadReader_keepSegment l0 l1 l2 l3 w) := by
  intro l0 l1 l2 l3 w
  unfold fHeadReader_keepSegment
  show EE Γ MHeadReader_keepSegment 0 [(0, .ref l0), (1, .int l1), (2, .int l2), (3, .int l3)] [] w _
  refine ee_aload_n 0 dHeadReader_keepSegment_0 rfl ?_
  refine ee_getR dHeadReader_keepSegment_1 lfHeadReader_15 (fun v1 _ => ?_)
  refine ee_iload_n 1 dHeadReader_keepSegment_4 rfl ?_
  refine ee_iconst (v := (1 : Int32)) dHeadReader_keepSegment_5 (by decide) ?_
  refine ee_iadd dHeadReader_keepSegment_6 ?_
  refine ee_bind (fun _ ho7 => ?_)
  refine ee_callV (as := [.int (l1 + (1 : Int32))]) (st := []) dHeadReader_keepSegment_7 (t_fBytes_get v1 (l1 + (1 : Int32)) w) my_fBytes_get.1 (Nat.le_of_ble_eq_true rfl) my_fBytes_get.2 rfl cf_2.1 rfl (p_obj_eq.mp ho7) gw_593 gw_459 gw_460 ⟨Nat.le_of_ble_eq_true rfl, Nat.le_of_ble_eq_true rfl⟩ (Nat.le_of_ble_eq_true rfl) (fun rv7 w7 _ => ?_)
  refine ee_kI (fun v7 => ?_)
  refine ee_ite (fun h10_82 => ?_) (fun h10_82 => ?_)
  · refine ee_look (tgt := 52) (off := 42) dHeadReader_keepSegment_10 (by decide) (by rw [h10_82] <;> rfl) (by decide) ?_
    refine ee_iload_n 2 dHeadReader_keepSegment_52 rfl ?_
    refine ee_iload_n 1 dHeadReader_keepSegment_53 rfl ?_
    refine ee_isub dHeadReader_keepSegment_54 ?_
    refine ee_bipush (v := (14 : Int32)) dHeadReader_keepSegment_55 (by decide) ?_
    refine ee_icmp_ne (tgt := 89) dHeadReader_keepSegment_57 (by decide) (fun h57 => ?_) (fun h57 => ?_)
    · refine ee_iconst (v := (0 : Int32)) dHeadReader_keepSegment_89 (by decide) ?_
      exact ee_zret rfl dHeadReader_keepSegment_90
    · refine ee_aload_n 0 dHeadReader_keepSegment_60 rfl ?_
      refine ee_iload_n 1 dHeadReader_keepSegment_61 rfl ?_
      refine ee_iload_n 3 dHeadReader_keepSegment_62 rfl ?_
      refine ee_bind (fun _ ho63 => ?_)
      refine ee_callV (as := [.int l1, .int l3]) (st := []) dHeadReader_keepSegment_63 (t_fHeadReader_keepStyleForAll l0 l1 l3 w7) my_fHeadReader_keepStyleForAll.1 (Nat.le_of_ble_eq_true rfl) my_fHeadReader_keepStyleForAll.2 rfl cf_3.1 rfl (p_obj_eq.mp ho63) gw_646 gw_647 gw_648 ⟨Nat.le_of_ble_eq_true rfl, Nat.le_of_ble_eq_true rfl⟩ (Nat.le_of_ble_eq_true rfl) (fun rv63 w63 _ => ?_)
      refine ee_kI (fun v63 => ?_)
      refine ee_if_eq (tgt := 89) dHeadReader_keepSegment_66 (by decide) (fun h66 => ?_) (fun h66 => ?_)
      · refine ee_iconst (v := (0 : Int32)) dHeadReader_keepSegment_89 (by decide) ?_
        exact ee_zret rfl dHeadReader_keepSegment_90
      · refine ee_aload_n 0 dHeadReader_keepSegment_69 rfl ?_
        refine ee_iload_n 1 dHeadReader_keepSegment_70 rfl ?_
        refine ee_bipush (v := (8 : Int32)) dHeadReader_keepSegment_71 (by decide) ?_
        refine ee_iadd dHeadReader_keepSegment_73 ?_
        refine ee_iload_n 3 dHeadReader_keepSegment_74 rfl ?_
        refine ee_iconst (v := (-1 : Int32)) dHeadReader_keepSegment_75 (by decide) ?_
        refine ee_callS (as := [.int l3, .int (-1 : Int32)]) (st := [.int (l1 + (8 : Int32)), .ref l0]) dHeadReader_keepSegment_76 (t_fSettings_slotOf l3 (-1 : Int32) w63) my_fSettings_slotOf.1 (Nat.le_of_ble_eq_true rfl) my_fSettings_slotOf.2 rfl gw_650 gw_426 ⟨Nat.le_of_ble_eq_true rfl, Nat.le_of_ble_eq_true rfl⟩ (Nat.le_of_ble_eq_true rfl) (fun rv76 w76 _ => ?_)
        refine ee_kI (fun v76 => ?_)
        refine ee_bind (fun _ ho79 => ?_)
        refine ee_callV (as := [.int (l1 + (8 : Int32)), .int v76]) (st := []) dHeadReader_keepSegment_79 (t_fHeadReader_keepStyle l0 (l1 + (8 : Int32)) v76 w76) my_fHeadReader_keepStyle.1 (Nat.le_of_ble_eq_true rfl) my_fHeadReader_keepStyle.2 rfl cf_3.1 rfl (p_obj_eq.mp ho79) gw_652 gw_653 gw_654 ⟨Nat.le_of_ble_eq_true rfl, Nat.le_of_ble_eq_true rfl⟩ (Nat.le_of_ble_eq_true rfl) (fun rv79 w79 _ => ?_)
        refine ee_kI (fun v79 => ?_)
        refine ee_if_eq (tgt := 89) dHeadReader_keepSegment_82 (by decide) (fun h82 => ?_) (fun h82 => ?_)
        · refine ee_iconst (v := (0 : Int32)) dHeadReader_keepSegment_89 (by decide) ?_
          exact ee_zret rfl dHeadReader_keepSegment_90
        · refine ee_iconst (v := (1 : Int32)) dHeadReader_keepSegment_85 (by decide) ?_
          refine ee_goto (tgt := 90) dHeadReader_keepSegment_86 (by decide) ?_
          exact ee_zret rfl dHeadReader_keepSegment_90
  · skip
    refine ee_ite (fun h10_83 => ?_) (fun h10_83 => ?_)
    · refine ee_look (tgt := 91) (off := 81) dHeadReader_keepSegment_10 (by decide) (by rw [h10_83] <;> rfl) (by decide) ?_
      refine ee_iload_n 2 dHeadReader_keepSegment_91 rfl ?_
      refine ee_iload_n 1 dHeadReader_keepSegment_92 rfl ?_
      refine ee_isub dHeadReader_keepSegment_93 ?_
      refine ee_bipush (v := (11 : Int32)) dHeadReader_keepSegment_94 (by decide) ?_
      refine ee_icmp_ne (tgt := 147) dHeadReader_keepSegment_96 (by decide) (fun h96 => ?_) (fun h96 => ?_)
      · refine ee_iconst (v := (0 : Int32)) dHeadReader_keepSegment_147 (by decide) ?_
        exact ee_zret rfl dHeadReader_keepSegment_148
      · refine ee_aload_n 0 dHeadReader_keepSegment_99 rfl ?_
        refine ee_getR dHeadReader_keepSegment_100 lfHeadReader_19 (fun v100 _ => ?_)
        refine ee_aload_n 0 dHeadReader_keepSegment_103 rfl ?_
        refine ee_getR dHeadReader_keepSegment_104 lfHeadReader_15 (fun v104 _ => ?_)
        refine ee_iload_n 1 dHeadReader_keepSegment_107 rfl ?_
        refine ee_iconst (v := (4 : Int32)) dHeadReader_keepSegment_108 (by decide) ?_
        refine ee_iadd dHeadReader_keepSegment_109 ?_
        refine ee_bind (fun _ ho110 => ?_)
        refine ee_callV (as := [.int (l1 + (4 : Int32))]) (st := [.ref v100]) dHeadReader_keepSegment_110 (t_fBytes_get v104 (l1 + (4 : Int32)) w7) my_fBytes_get.1 (Nat.le_of_ble_eq_true rfl) my_fBytes_get.2 rfl cf_2.1 rfl (p_obj_eq.mp ho110) gw_593 gw_459 gw_460 ⟨Nat.le_of_ble_eq_true rfl, Nat.le_of_ble_eq_true rfl⟩ (Nat.le_of_ble_eq_true rfl) (fun rv110 w110 _ => ?_)
        refine ee_kI (fun v110 => ?_)
        refine ee_bind (fun _ ho113 => ?_)
        refine ee_callV (as := [.int v110]) (st := []) dHeadReader_keepSegment_113 (t_fSettings_isComponent v100 v110 w110) my_fSettings_isComponent.1 (Nat.le_of_ble_eq_true rfl) my_fSettings_isComponent.2 rfl cf_7.1 rfl (p_obj_eq.mp ho113) gw_656 gw_657 gw_658 ⟨Nat.le_of_ble_eq_true rfl, Nat.le_of_ble_eq_true rfl⟩ (Nat.le_of_ble_eq_true rfl) (fun rv113 w113 _ => ?_)
        refine ee_kI (fun v113 => ?_)
        refine ee_if_eq (tgt := 147) dHeadReader_keepSegment_116 (by decide) (fun h116 => ?_) (fun h116 => ?_)
        · refine ee_iconst (v := (0 : Int32)) dHeadReader_keepSegment_147 (by decide) ?_
          exact ee_zret rfl dHeadReader_keepSegment_148
        · refine ee_aload_n 0 dHeadReader_keepSegment_119 rfl ?_
          refine ee_iload_n 1 dHeadReader_keepSegment_120 rfl ?_
          refine ee_iconst (v := (5 : Int32)) dHeadReader_keepSegment_121 (by decide) ?_
          refine ee_iadd dHeadReader_keepSegment_122 ?_
          refine ee_iload_n 3 dHeadReader_keepSegment_123 rfl ?_
          refine ee_aload_n 0 dHeadReader_keepSegment_124 rfl ?_
          refine ee_getR dHeadReader_keepSegment_125 lfHeadReader_15 (fun v125 _ => ?_)
          refine ee_iload_n 1 dHeadReader_keepSegment_128 rfl ?_
          refine ee_iconst (v := (4 : Int32)) dHeadReader_keepSegment_129 (by decide) ?_
          refine ee_iadd dHeadReader_keepSegment_130 ?_
          refine ee_bind (fun _ ho131 => ?_)
          refine ee_callV (as := [.int (l1 + (4 : Int32))]) (st := [.int l3, .int (l1 + (5 : Int32)), .ref l0]) dHeadReader_keepSegment_131 (t_fBytes_get v125 (l1 + (4 : Int32)) w113) my_fBytes_get.1 (Nat.le_of_ble_eq_true rfl) my_fBytes_get.2 rfl cf_2.1 rfl (p_obj_eq.mp ho131) gw_593 gw_459 gw_460 ⟨Nat.le_of_ble_eq_true rfl, Nat.le_of_ble_eq_true rfl⟩ (Nat.le_of_ble_eq_true rfl) (fun rv131 w131 _ => ?_)
          refine ee_kI (fun v131 => ?_)
          refine ee_callS (as := [.int l3, .int v131]) (st := [.int (l1 + (5 : Int32)), .ref l0]) dHeadReader_keepSegment_134 (t_fSettings_slotOf l3 v131 w131) my_fSettings_slotOf.1 (Nat.le_of_ble_eq_true rfl) my_fSettings_slotOf.2 rfl gw_650 gw_426 ⟨Nat.le_of_ble_eq_true rfl, Nat.le_of_ble_eq_true rfl⟩ (Nat.le_of_ble_eq_true rfl) (fun rv134 w134 _ => ?_)
          refine ee_kI (fun v134 => ?_)
          refine ee_bind (fun _ ho137 => ?_)
          refine ee_callV (as := [.int (l1 + (5 : Int32)), .int v134]) (st := []) dHeadReader_keepSegment_137 (t_fHeadReader_keepStyle l0 (l1 + (5 : Int32)) v134 w134) my_fHeadReader_keepStyle.1 (Nat.le_of_ble_eq_true rfl) my_fHeadReader_keepStyle.2 rfl cf_3.1 rfl (p_obj_eq.mp ho137) gw_652 gw_653 gw_654 ⟨Nat.le_of_ble_eq_true rfl, Nat.le_of_ble_eq_true rfl⟩ (Nat.le_of_ble_eq_true rfl) (fun rv137 w137 _ => ?_)
          refine ee_kI (fun v137 => ?_)
          refine ee_if_eq (tgt := 147) dHeadReader_keepSegment_140 (by decide) (fun h140 => ?_) (fun h140 => ?_)
          · refine ee_iconst (v := (0 : Int32)) dHeadReader_keepSegment_147 (by decide) ?_
            exact ee_zret rfl dHeadReader_keepSegment_148
          · refine ee_iconst (v := (1 : Int32)) dHeadReader_keepSegment_143 (by decide) ?_
            refine ee_goto (tgt := 148) dHeadReader_keepSegment_144 (by decide) ?_
            exact ee_zret rfl dHeadReader_keepSegment_148
    · skip
      refine ee_ite (fun h10_92 => ?_) (fun h10_92 => ?_)
      · refine ee_look (tgt := 149) (off := 139) dHeadReader_keepSegment_10 (by decide) (by rw [h10_92] <;> rfl) (by decide) ?_
        refine ee_iload_n 2 dHeadReader_keepSegment_149 rfl ?_
        refine ee_iload_n 1 dHeadReader_keepSegment_150 rfl ?_
        refine ee_isub dHeadReader_keepSegment_151 ?_
        refine ee_bipush (v := (7 : Int32)) dHeadReader_keepSegment_152 (by decide) ?_
        refine ee_icmp_ne (tgt := 176) dHeadReader_keepSegment_154 (by decide) (fun h154 => ?_) (fun h154 => ?_)
        · refine ee_iconst (v := (0 : Int32)) dHeadReader_keepSegment_176 (by decide) ?_
          exact ee_zret rfl dHeadReader_keepSegment_177
        · refine ee_aload_n 0 dHeadReader_keepSegment_157 rfl ?_
          refine ee_iload_n 1 dHeadReader_keepSegment_158 rfl ?_
          refine ee_iconst (v := (4 : Int32)) dHeadReader_keepSegment_159 (by decide) ?_
          refine ee_iadd dHeadReader_keepSegment_160 ?_
          refine ee_iload_n 3 dHeadReader_keepSegment_161 rfl ?_
          refine ee_iconst (v := (-1 : Int32)) dHeadReader_keepSegment_162 (by decide) ?_
          refine ee_callS (as := [.int l3, .int (-1 : Int32)]) (st := [.int (l1 + (4 : Int32)), .ref l0]) dHeadReader_keepSegment_163 (t_fSettings_slotOf l3 (-1 : Int32) w7) my_fSettings_slotOf.1 (Nat.le_of_ble_eq_true rfl) my_fSettings_slotOf.2 rfl gw_650 gw_426 ⟨Nat.le_of_ble_eq_true rfl, Nat.le_of_ble_eq_true rfl⟩ (Nat.le_of_ble_eq_true rfl) (fun rv163 w163 _ => ?_)
          refine ee_kI (fun v163 => ?_)
          refine ee_bind (fun _ ho166 => ?_)
          refine ee_callV (as := [.int (l1 + (4 : Int32)), .int v163]) (st := []) dHeadReader_keepSegment_166 (t_fHeadReader_keepStep l0 (l1 + (4 : Int32)) v163 w163) my_fHeadReader_keepStep.1 (Nat.le_of_ble_eq_true rfl) my_fHeadReader_keepStep.2 rfl cf_3.1 rfl (p_obj_eq.mp ho166) gw_660 gw_661 gw_662 ⟨Nat.le_of_ble_eq_true rfl, Nat.le_of_ble_eq_true rfl⟩ (Nat.le_of_ble_eq_true rfl) (fun rv166 w166 _ => ?_)
          refine ee_kI (fun v166 => ?_)
          refine ee_if_eq (tgt := 176) dHeadReader_keepSegment_169 (by decide) (fun h169 => ?_) (fun h169 => ?_)
          · refine ee_iconst (v := (0 : Int32)) dHeadReader_keepSegment_176 (by decide) ?_
            exact ee_zret rfl dHeadReader_keepSegment_177
          · refine ee_iconst (v := (1 : Int32)) dHeadReader_keepSegment_172 (by decide) ?_
            refine ee_goto (tgt := 177) dHeadReader_keepSegment_173 (by decide) ?_
            exact ee_zret rfl dHeadReader_keepSegment_177
      · skip
        refine ee_ite (fun h10_93 => ?_) (fun h10_93 => ?_)
        · refine ee_look (tgt := 178) (off := 168) dHeadReader_keepSegment_10 (by decide) (by rw [h10_93] <;> rfl) (by decide) ?_
          refine ee_iload_n 2 dHeadReader_keepSegment_178 rfl ?_
          refine ee_iload_n 1 dHeadReader_keepSegment_179 rfl ?_
          refine ee_isub dHeadReader_keepSegment_180 ?_
          refine ee_bipush (v := (8 : Int32)) dHeadReader_keepSegment_181 (by decide) ?_
          refine ee_icmp_ne (tgt := 234) dHeadReader_keepSegment_183 (by decide) (fun h183 => ?_) (fun h183 => ?_)
          · refine ee_iconst (v := (0 : Int32)) dHeadReader_keepSegment_234 (by decide) ?_
            exact ee_zret rfl dHeadReader_keepSegment_235
          · refine ee_aload_n 0 dHeadReader_keepSegment_186 rfl ?_
            refine ee_getR dHeadReader_keepSegment_187 lfHeadReader_19 (fun v187 _ => ?_)
            refine ee_aload_n 0 dHeadReader_keepSegment_190 rfl ?_
            refine ee_getR dHeadReader_keepSegment_191 lfHeadReader_15 (fun v191 _ => ?_)
            refine ee_iload_n 1 dHeadReader_keepSegment_194 rfl ?_
            refine ee_iconst (v := (4 : Int32)) dHeadReader_keepSegment_195 (by decide) ?_
            refine ee_iadd dHeadReader_keepSegment_196 ?_
            refine ee_bind (fun _ ho197 => ?_)
            refine ee_callV (as := [.int (l1 + (4 : Int32))]) (st := [.ref v187]) dHeadReader_keepSegment_197 (t_fBytes_get v191 (l1 + (4 : Int32)) w7) my_fBytes_get.1 (Nat.le_of_ble_eq_true rfl) my_fBytes_get.2 rfl cf_2.1 rfl (p_obj_eq.mp ho197) gw_593 gw_459 gw_460 ⟨Nat.le_of_ble_eq_true rfl, Nat.le_of_ble_eq_true rfl⟩ (Nat.le_of_ble_eq_true rfl) (fun rv197 w197 _ => ?_)
            refine ee_kI (fun v197 => ?_)
            refine ee_bind (fun _ ho200 => ?_)
            refine ee_callV (as := [.int v197]) (st := []) dHeadReader_keepSegment_200 (t_fSettings_isComponent v187 v197 w197) my_fSettings_isComponent.1 (Nat.le_of_ble_eq_true rfl) my_fSettings_isComponent.2 rfl cf_7.1 rfl (p_obj_eq.mp ho200) gw_656 gw_657 gw_658 ⟨Nat.le_of_ble_eq_true rfl, Nat.le_of_ble_eq_true rfl⟩ (Nat.le_of_ble_eq_true rfl) (fun rv200 w200 _ => ?_)
            refine ee_kI (fun v200 => ?_)
            refine ee_if_eq (tgt := 234) dHeadReader_keepSegment_203 (by decide) (fun h203 => ?_) (fun h203 => ?_)
            · refine ee_iconst (v := (0 : Int32)) dHeadReader_keepSegment_234 (by decide) ?_
              exact ee_zret rfl dHeadReader_keepSegment_235
            · refine ee_aload_n 0 dHeadReader_keepSegment_206 rfl ?_
              refine ee_iload_n 1 dHeadReader_keepSegment_207 rfl ?_
              refine ee_iconst (v := (5 : Int32)) dHeadReader_keepSegment_208 (by decide) ?_
              refine ee_iadd dHeadReader_keepSegment_209 ?_
              refine ee_iload_n 3 dHeadReader_keepSegment_210 rfl ?_
              refine ee_aload_n 0 dHeadReader_keepSegment_211 rfl ?_
              refine ee_getR dHeadReader_keepSegment_212 lfHeadReader_15 (fun v212 _ => ?_)
              refine ee_iload_n 1 dHeadReader_keepSegment_215 rfl ?_
              refine ee_iconst (v := (4 : Int32)) dHeadReader_keepSegment_216 (by decide) ?_
              refine ee_iadd dHeadReader_keepSegment_217 ?_
              refine ee_bind (fun _ ho218 => ?_)
              refine ee_callV (as := [.int (l1 + (4 : Int32))]) (st := [.int l3, .int (l1 + (5 : Int32)), .ref l0]) dHeadReader_keepSegment_218 (t_fBytes_get v212 (l1 + (4 : Int32)) w200) my_fBytes_get.1 (Nat.le_of_ble_eq_true rfl) my_fBytes_get.2 rfl cf_2.1 rfl (p_obj_eq.mp ho218) gw_593 gw_459 gw_460 ⟨Nat.le_of_ble_eq_true rfl, Nat.le_of_ble_eq_true rfl⟩ (Nat.le_of_ble_eq_true rfl) (fun rv218 w218 _ => ?_)
              refine ee_kI (fun v218 => ?_)
              refine ee_callS (as := [.int l3, .int v218]) (st := [.int (l1 + (5 : Int32)), .ref l0]) dHeadReader_keepSegment_221 (t_fSettings_slotOf l3 v218 w218) my_fSettings_slotOf.1 (Nat.le_of_ble_eq_true rfl) my_fSettings_slotOf.2 rfl gw_650 gw_426 ⟨Nat.le_of_ble_eq_true rfl, Nat.le_of_ble_eq_true rfl⟩ (Nat.le_of_ble_eq_true rfl) (fun rv221 w221 _ => ?_)
              refine ee_kI (fun v221 => ?_)
              refine ee_bind (fun _ ho224 => ?_)
              refine ee_callV (as := [.int (l1 + (5 : Int32)), .int v221]) (st := []) dHeadReader_keepSegment_224 (t_fHeadReader_keepStep l0 (l1 + (5 : Int32)) v221 w221) my_fHeadReader_keepStep.1 (Nat.le_of_ble_eq_true rfl) my_fHeadReader_keepStep.2 rfl cf_3.1 rfl (p_obj_eq.mp ho224) gw_660 gw_661 gw_662 ⟨Nat.le_of_ble_eq_true rfl, Nat.le_of_ble_eq_true rfl⟩ (Nat.le_of_ble_eq_true rfl) (fun rv224 w224 _ => ?_)
              refine ee_kI (fun v224 => ?_)
              refine ee_if_eq (tgt := 234) dHeadReader_keepSegment_227 (by decide) (fun h227 => ?_) (fun h227 => ?_)
              · refine ee_iconst (v := (0 : Int32)) dHeadReader_keepSegment_234 (by decide) ?_
                exact ee_zret rfl dHeadReader_keepSegment_235
              · refine ee_iconst (v := (1 : Int32)) dHeadReader_keepSegment_230 (by decide) ?_
                refine ee_goto (tgt := 235) dHeadReader_keepSegment_231 (by decide) ?_
                exact ee_zret rfl dHeadReader_keepSegment_235
        · skip
          refine ee_look (tgt := 236) (off := 226) dHeadReader_keepSegment_10 (by decide) (by have e0 : ¬ Int32.toInt v7 = (82 : Int) := fun h => h10_82 (Int32.toInt_inj.mp (h.trans (show (82 : Int) = (82 : Int32).toInt by decide))); have e1 : ¬ Int32.toInt v7 = (83 : Int) := fun h => h10_83 (Int32.toInt_inj.mp (h.trans (show (83 : Int) = (83 : Int32).toInt by decide))); have e2 : ¬ Int32.toInt v7 = (92 : Int) := fun h => h10_92 (Int32.toInt_inj.mp (h.trans (show (92 : Int) = (92 : Int32).toInt by decide))); have e3 : ¬ Int32.toInt v7 = (93 : Int) := fun h => h10_93 (Int32.toInt_inj.mp (h.trans (show (93 : Int) = (93 : Int32).toInt by decide))); simp [Op.lookupswitch.offset, e0, Ne.symm e0, e1, Ne.symm e1, e2, Ne.symm e2, e3, Ne.symm e3]) (by decide) ?_
          refine ee_iconst (v := (1 : Int32)) dHeadReader_keepSegment_236 (by decide) ?_
          exact ee_zret rfl dHeadReader_keepSegment_237
