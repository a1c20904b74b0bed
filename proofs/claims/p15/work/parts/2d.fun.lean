def fWriter_step_48 (l0 : Nat) (l1 : Nat) (l2 : Int32) (l3 : Int32) (w : PW) : PX := (p_getR w l0 9 0).bind fun v49 => (p_obj w l1 7).bind fun _ => p_call (fSettings_valueOf l1 (10 : Int32) l2 l3 w) <| p_kI fun v59 w59 => (p_obj w59 v49 2).bind fun _ => p_call (fBytes_append v49 (((32 : Int32) * v59) + (1 : Int32)) w59) <| p_kI fun v65 w65 => (p_getR w65 l0 9 0).bind fun v70 => (p_obj w65 l1 7).bind fun _ => p_call (fSettings_valueOf l1 (9 : Int32) l2 l3 w65) <| p_kI fun v81 w81 => (p_obj w81 v70 2).bind fun _ => p_call (fBytes_appendNumber v70 ((2048 : Int32) * v81) (2 : Int32) w81) <| p_kV fun w86 => some (.inl none, w86)
set_option maxRecDepth 20000 in
set_option maxHeartbeats 2000000 in
theorem t_fWriter_step_48 {Γ : PG} : ∀ (l0 : Nat) (l1 : Nat) (l2 : Int32) (l3 : Int32) (w : PW), EE Γ MWriter_step 48 [(0, .ref l0), (1, .ref l1), (2, .int l2), (3, .int l3)] [] w (fWriter_step_48 l0 l1 l2 l3 w) := by
  intro l0 l1 l2 l3 w
  unfold fWriter_step_48
  refine ee_aload_n 0 dWriter_step_48 rfl ?_
  refine ee_getR dWriter_step_49 lfWriter_14 (fun v49 _ => ?_)
  refine ee_bipush (v := (32 : Int32)) dWriter_step_52 (by decide) ?_
  refine ee_aload_n 1 dWriter_step_54 rfl ?_
  refine ee_bipush (v := (10 : Int32)) dWriter_step_55 (by decide) ?_
  refine ee_iload_n 2 dWriter_step_57 rfl ?_
  refine ee_iload_n 3 dWriter_step_58 rfl ?_
  refine ee_bind (fun _ ho59 => ?_)
  refine ee_callV (as := [.int (10 : Int32), .int l2, .int l3]) (st := [.int (32 : Int32), .ref v49]) dWriter_step_59 (t_fSettings_valueOf l1 (10 : Int32) l2 l3 w) my_fSettings_valueOf.1 (Nat.le_of_ble_eq_true rfl) my_fSettings_valueOf.2 rfl cf_7.1 rfl (p_obj_eq.mp ho59) gw_416 gw_417 gw_418 ⟨Nat.le_of_ble_eq_true rfl, Nat.le_of_ble_eq_true rfl⟩ (Nat.le_of_ble_eq_true rfl) (fun rv59 w59 _ => ?_)
  refine ee_kI (fun v59 => ?_)
  refine ee_imul dWriter_step_62 ?_
  refine ee_iconst (v := (1 : Int32)) dWriter_step_63 (by decide) ?_
  refine ee_iadd dWriter_step_64 ?_
  refine ee_bind (fun _ ho65 => ?_)
  refine ee_callV (as := [.int (((32 : Int32) * v59) + (1 : Int32))]) (st := []) dWriter_step_65 (t_fBytes_append v49 (((32 : Int32) * v59) + (1 : Int32)) w59) my_fBytes_append.1 (Nat.le_of_ble_eq_true rfl) my_fBytes_append.2 rfl cf_2.1 rfl (p_obj_eq.mp ho65) gw_430 gw_378 gw_379 ⟨Nat.le_of_ble_eq_true rfl, Nat.le_of_ble_eq_true rfl⟩ (Nat.le_of_ble_eq_true rfl) (fun rv65 w65 _ => ?_)
  refine ee_kI (fun v65 => ?_)
  refine ee_pop dWriter_step_68 rfl ?_
  refine ee_aload_n 0 dWriter_step_69 rfl ?_
  refine ee_getR dWriter_step_70 lfWriter_14 (fun v70 _ => ?_)
  refine ee_sipush (v := (2048 : Int32)) dWriter_step_73 (by decide) ?_
  refine ee_aload_n 1 dWriter_step_76 rfl ?_
  refine ee_bipush (v := (9 : Int32)) dWriter_step_77 (by decide) ?_
  refine ee_iload_n 2 dWriter_step_79 rfl ?_
  refine ee_iload_n 3 dWriter_step_80 rfl ?_
  refine ee_bind (fun _ ho81 => ?_)
  refine ee_callV (as := [.int (9 : Int32), .int l2, .int l3]) (st := [.int (2048 : Int32), .ref v70]) dWriter_step_81 (t_fSettings_valueOf l1 (9 : Int32) l2 l3 w65) my_fSettings_valueOf.1 (Nat.le_of_ble_eq_true rfl) my_fSettings_valueOf.2 rfl cf_7.1 rfl (p_obj_eq.mp ho81) gw_416 gw_417 gw_418 ⟨Nat.le_of_ble_eq_true rfl, Nat.le_of_ble_eq_true rfl⟩ (Nat.le_of_ble_eq_true rfl) (fun rv81 w81 _ => ?_)
  refine ee_kI (fun v81 => ?_)
  refine ee_imul dWriter_step_84 ?_
  refine ee_iconst (v := (2 : Int32)) dWriter_step_85 (by decide) ?_
  refine ee_bind (fun _ ho86 => ?_)
  refine ee_callV (as := [.int ((2048 : Int32) * v81), .int (2 : Int32)]) (st := []) dWriter_step_86 (t_fBytes_appendNumber v70 ((2048 : Int32) * v81) (2 : Int32) w81) my_fBytes_appendNumber.1 (Nat.le_of_ble_eq_true rfl) my_fBytes_appendNumber.2 rfl cf_2.1 rfl (p_obj_eq.mp ho86) gw_373 gw_374 gw_375 ⟨Nat.le_of_ble_eq_true rfl, Nat.le_of_ble_eq_true rfl⟩ (Nat.le_of_ble_eq_true rfl) (fun rv86 w86 _ => ?_)
  refine ee_kV ?_
  exact ee_vret rfl dWriter_step_89
def fWriter_step (l0 : Nat) (l1 : Nat) (l2 : Int32) (l3 : Int32) (w : PW) : PX := if ¬ l3 = (-1 : Int32) then ((p_obj w l0 9).bind fun _ => p_call (fWriter_code l0 (93 : Int32) w) <| p_kV fun w26 => (p_getR w26 l0 9 0).bind fun v30 => (p_obj w26 v30 2).bind fun _ => p_call (fBytes_appendNumber v30 (6 : Int32) (2 : Int32) w26) <| p_kV fun w36 => (p_getR w36 l0 9 0).bind fun v40 => (p_obj w36 v40 2).bind fun _ => p_call (fBytes_append v40 l3 w36) <| p_kI fun v44 w44 => fWriter_step_48 l0 l1 l2 l3 w44) else ((p_obj w l0 9).bind fun _ => p_call (fWriter_code l0 (92 : Int32) w) <| p_kV fun w8 => (p_getR w8 l0 9 0).bind fun v12 => (p_obj w8 v12 2).bind fun _ => p_call (fBytes_appendNumber v12 (5 : Int32) (2 : Int32) w8) <| p_kV fun w17 => fWriter_step_48 l0 l1 l2 l3 w17)
set_option maxRecDepth 20000 in
set_option maxHeartbeats 2000000 in
theorem t_fWriter_step {Γ : PG} : ∀ (l0 : Nat) (l1 : Nat) (l2 : Int32) (l3 : Int32) (w : PW), EE Γ MWriter_step 0 (lv_args 0 [.ref l0, .ref l1, .int l2, .int l3]) [] w (fWriter_step l0 l1 l2 l3 w) := by
  intro l0 l1 l2 l3 w
  unfold fWriter_step
  show EE Γ MWriter_step 0 [(0, .ref l0), (1, .ref l1), (2, .int l2), (3, .int l3)] [] w _
  refine ee_iload_n 3 dWriter_step_0 rfl ?_
  refine ee_iconst (v := (-1 : Int32)) dWriter_step_1 (by decide) ?_
  refine ee_icmp_ne (tgt := 23) dWriter_step_2 (by decide) (fun h2 => ?_) (fun h2 => ?_)
  · refine ee_aload_n 0 dWriter_step_23 rfl ?_
    refine ee_bipush (v := (93 : Int32)) dWriter_step_24 (by decide) ?_
    refine ee_bind (fun _ ho26 => ?_)
    refine ee_callV (as := [.int (93 : Int32)]) (st := []) dWriter_step_26 (t_fWriter_code l0 (93 : Int32) w) my_fWriter_code.1 (Nat.le_of_ble_eq_true rfl) my_fWriter_code.2 rfl cf_9.1 rfl (p_obj_eq.mp ho26) gw_468 gw_469 gw_470 ⟨Nat.le_of_ble_eq_true rfl, Nat.le_of_ble_eq_true rfl⟩ (Nat.le_of_ble_eq_true rfl) (fun rv26 w26 _ => ?_)
    refine ee_kV ?_
    refine ee_aload_n 0 dWriter_step_29 rfl ?_
    refine ee_getR dWriter_step_30 lfWriter_14 (fun v30 _ => ?_)
    refine ee_bipush (v := (6 : Int32)) dWriter_step_33 (by decide) ?_
    refine ee_iconst (v := (2 : Int32)) dWriter_step_35 (by decide) ?_
    refine ee_bind (fun _ ho36 => ?_)
    refine ee_callV (as := [.int (6 : Int32), .int (2 : Int32)]) (st := []) dWriter_step_36 (t_fBytes_appendNumber v30 (6 : Int32) (2 : Int32) w26) my_fBytes_appendNumber.1 (Nat.le_of_ble_eq_true rfl) my_fBytes_appendNumber.2 rfl cf_2.1 rfl (p_obj_eq.mp ho36) gw_373 gw_374 gw_375 ⟨Nat.le_of_ble_eq_true rfl, Nat.le_of_ble_eq_true rfl⟩ (Nat.le_of_ble_eq_true rfl) (fun rv36 w36 _ => ?_)
    refine ee_kV ?_
    refine ee_aload_n 0 dWriter_step_39 rfl ?_
    refine ee_getR dWriter_step_40 lfWriter_14 (fun v40 _ => ?_)
    refine ee_iload_n 3 dWriter_step_43 rfl ?_
    refine ee_bind (fun _ ho44 => ?_)
    refine ee_callV (as := [.int l3]) (st := []) dWriter_step_44 (t_fBytes_append v40 l3 w36) my_fBytes_append.1 (Nat.le_of_ble_eq_true rfl) my_fBytes_append.2 rfl cf_2.1 rfl (p_obj_eq.mp ho44) gw_430 gw_378 gw_379 ⟨Nat.le_of_ble_eq_true rfl, Nat.le_of_ble_eq_true rfl⟩ (Nat.le_of_ble_eq_true rfl) (fun rv44 w44 _ => ?_)
    refine ee_kI (fun v44 => ?_)
    refine ee_pop dWriter_step_47 rfl ?_
    exact t_fWriter_step_48 _ _ _ _ w44
  · refine ee_aload_n 0 dWriter_step_5 rfl ?_
    refine ee_bipush (v := (92 : Int32)) dWriter_step_6 (by decide) ?_
    refine ee_bind (fun _ ho8 => ?_)
    refine ee_callV (as := [.int (92 : Int32)]) (st := []) dWriter_step_8 (t_fWriter_code l0 (92 : Int32) w) my_fWriter_code.1 (Nat.le_of_ble_eq_true rfl) my_fWriter_code.2 rfl cf_9.1 rfl (p_obj_eq.mp ho8) gw_468 gw_469 gw_470 ⟨Nat.le_of_ble_eq_true rfl, Nat.le_of_ble_eq_true rfl⟩ (Nat.le_of_ble_eq_true rfl) (fun rv8 w8 _ => ?_)
    refine ee_kV ?_
    refine ee_aload_n 0 dWriter_step_11 rfl ?_
    refine ee_getR dWriter_step_12 lfWriter_14 (fun v12 _ => ?_)
    refine ee_iconst (v := (5 : Int32)) dWriter_step_15 (by decide) ?_
    refine ee_iconst (v := (2 : Int32)) dWriter_step_16 (by decide) ?_
    refine ee_bind (fun _ ho17 => ?_)
    refine ee_callV (as := [.int (5 : Int32), .int (2 : Int32)]) (st := []) dWriter_step_17 (t_fBytes_appendNumber v12 (5 : Int32) (2 : Int32) w8) my_fBytes_appendNumber.1 (Nat.le_of_ble_eq_true rfl) my_fBytes_appendNumber.2 rfl cf_2.1 rfl (p_obj_eq.mp ho17) gw_373 gw_374 gw_375 ⟨Nat.le_of_ble_eq_true rfl, Nat.le_of_ble_eq_true rfl⟩ (Nat.le_of_ble_eq_true rfl) (fun rv17 w17 _ => ?_)
    refine ee_kV ?_
    refine ee_goto (tgt := 48) dWriter_step_20 (by decide) ?_
    exact t_fWriter_step_48 _ _ _ _ w17
def fWriter_segments_36 : Nat → Nat → Nat → Int32 → Int32 → PW → PX
  | 0, _, _, _, _, _ => none
  | n9 + 1, l0, l1, l2, l3, w => (p_getR w l1 7 0).bind fun v38 => (p_ald w v38 0 (2 : Int32)).bind fun v42 => if v42 ≤ l3 then (some (.inl none, w)) else ((p_obj w l1 7).bind fun _ => p_call (fSettings_hasStep l1 l2 l3 w) <| p_kI fun v49 w49 => if v49 = 0 then (p_let (l3 + (1 : Int32)) fun (l3_62 : Int32) => (fWriter_segments_36 n9) l0 l1 l2 l3_62 w49) else ((p_obj w49 l0 9).bind fun _ => p_call (fWriter_step l0 l1 l2 l3 w49) <| p_kV fun w59 => p_let (l3 + (1 : Int32)) fun (l3_62 : Int32) => (fWriter_segments_36 n9) l0 l1 l2 l3_62 w59))
set_option maxRecDepth 20000 in
set_option maxHeartbeats 2000000 in
theorem t_fWriter_segments_36 {Γ : PG} : ∀ (n9 : Nat) (l0 : Nat) (l1 : Nat) (l2 : Int32) (l3 : Int32) (w : PW), EE Γ MWriter_segments 36 [(0, .ref l0), (1, .ref l1), (2, .int l2), (3, .int l3)] [] w (fWriter_segments_36 n9 l0 l1 l2 l3 w) := by
  intro n9
  induction n9 with
  | zero => intro l0 l1 l2 l3 w; exact ee_none
  | succ n9 ih =>
    intro l0 l1 l2 l3 w
    unfold fWriter_segments_36
    refine ee_iload_n 3 dWriter_segments_36 rfl ?_
    refine ee_aload_n 1 dWriter_segments_37 rfl ?_
    refine ee_getR dWriter_segments_38 lfWriter_51 (fun v38 _ => ?_)
    refine ee_iconst (v := (2 : Int32)) dWriter_segments_41 (by decide) ?_
    refine ee_iald (t := 0) dWriter_segments_42 rfl (fun v42 _ => ?_)
    refine ee_icmp_ge (tgt := 68) dWriter_segments_43 (by decide) (fun h43 => ?_) (fun h43 => ?_)
    · exact ee_vret rfl dWriter_segments_68
    · refine ee_aload_n 1 dWriter_segments_46 rfl ?_
      refine ee_iload_n 2 dWriter_segments_47 rfl ?_
      refine ee_iload_n 3 dWriter_segments_48 rfl ?_
      refine ee_bind (fun _ ho49 => ?_)
      refine ee_callV (as := [.int l2, .int l3]) (st := []) dWriter_segments_49 (t_fSettings_hasStep l1 l2 l3 w) my_fSettings_hasStep.1 (Nat.le_of_ble_eq_true rfl) my_fSettings_hasStep.2 rfl cf_7.1 rfl (p_obj_eq.mp ho49) gw_488 gw_489 gw_490 ⟨Nat.le_of_ble_eq_true rfl, Nat.le_of_ble_eq_true rfl⟩ (Nat.le_of_ble_eq_true rfl) (fun rv49 w49 _ => ?_)
      refine ee_kI (fun v49 => ?_)
      refine ee_if_eq (tgt := 62) dWriter_segments_52 (by decide) (fun h52 => ?_) (fun h52 => ?_)
      · refine ee_iinc 3 dWriter_segments_62 rfl (e := (1 : Int32)) (by decide) (Nat.le_of_ble_eq_true rfl) (fun l3_62 _ => ?_)
        refine ee_lv (lv2 := [(3, .int l3_62), (0, .ref l0), (1, .ref l1), (2, .int l2)]) rfl ?_
        refine ee_goto (tgt := 36) dWriter_segments_65 (by decide) ?_
        refine ee_pick [1, 2, 3, 0] rfl ?_
        exact ih _ _ _ _ w49
      · refine ee_aload_n 0 dWriter_segments_55 rfl ?_
        refine ee_aload_n 1 dWriter_segments_56 rfl ?_
        refine ee_iload_n 2 dWriter_segments_57 rfl ?_
        refine ee_iload_n 3 dWriter_segments_58 rfl ?_
        refine ee_bind (fun _ ho59 => ?_)
        refine ee_callV (as := [.ref l1, .int l2, .int l3]) (st := []) dWriter_segments_59 (t_fWriter_step l0 l1 l2 l3 w49) my_fWriter_step.1 (Nat.le_of_ble_eq_true rfl) my_fWriter_step.2 rfl cf_9.1 rfl (p_obj_eq.mp ho59) gw_492 gw_493 gw_494 ⟨Nat.le_of_ble_eq_true rfl, Nat.le_of_ble_eq_true rfl⟩ (Nat.le_of_ble_eq_true rfl) (fun rv59 w59 _ => ?_)
        refine ee_kV ?_
        refine ee_iinc 3 dWriter_segments_62 rfl (e := (1 : Int32)) (by decide) (Nat.le_of_ble_eq_true rfl) (fun l3_62 _ => ?_)
        refine ee_lv (lv2 := [(3, .int l3_62), (0, .ref l0), (1, .ref l1), (2, .int l2)]) rfl ?_
        refine ee_goto (tgt := 36) dWriter_segments_65 (by decide) ?_
        refine ee_pick [1, 2, 3, 0] rfl ?_
        exact ih _ _ _ _ w59
def fWriter_segments_2 : Nat → Nat → Nat → Int32 → Int32 → PW → PX
  | 0, _, _, _, _, _ => none
  | n9 + 1, l0, l1, l2, l3, w => (p_getR w l1 7 0).bind fun v4 => (p_ald w v4 0 (2 : Int32)).bind fun v8 => if v8 ≤ l3 then (fWriter_segments_36 FUEL l0 l1 l2 (-1 : Int32) w) else ((p_obj w l1 7).bind fun _ => p_call (fSettings_hasStyle l1 l2 l3 w) <| p_kI fun v15 w15 => if v15 = 0 then (p_let (l3 + (1 : Int32)) fun (l3_28 : Int32) => (fWriter_segments_2 n9) l0 l1 l2 l3_28 w15) else ((p_obj w15 l0 9).bind fun _ => p_call (fWriter_style l0 l1 l2 l3 w15) <| p_kV fun w25 => p_let (l3 + (1 : Int32)) fun (l3_28 : Int32) => (fWriter_segments_2 n9) l0 l1 l2 l3_28 w25))
set_option maxRecDepth 20000 in
set_option maxHeartbeats 2000000 in
theorem t_fWriter_segments_2 {Γ : PG} : ∀ (n9 : Nat) (l0 : Nat) (l1 : Nat) (l2 : Int32) (l3 : Int32) (w : PW), EE Γ MWriter_segments 2 [(0, .ref l0), (1, .ref l1), (2, .int l2), (3, .int l3)] [] w (fWriter_segments_2 n9 l0 l1 l2 l3 w) := by
  intro n9
  induction n9 with
  | zero => intro l0 l1 l2 l3 w; exact ee_none
  | succ n9 ih =>
    intro l0 l1 l2 l3 w
    unfold fWriter_segments_2
    refine ee_iload_n 3 dWriter_segments_2 rfl ?_
    refine ee_aload_n 1 dWriter_segments_3 rfl ?_
    refine ee_getR dWriter_segments_4 lfWriter_51 (fun v4 _ => ?_)
    refine ee_iconst (v := (2 : Int32)) dWriter_segments_7 (by decide) ?_
    refine ee_iald (t := 0) dWriter_segments_8 rfl (fun v8 _ => ?_)
    refine ee_icmp_ge (tgt := 34) dWriter_segments_9 (by decide) (fun h9 => ?_) (fun h9 => ?_)
    · refine ee_iconst (v := (-1 : Int32)) dWriter_segments_34 (by decide) ?_
      refine ee_istore_n (lv2 := [(3, .int (-1 : Int32)), (0, .ref l0), (1, .ref l1), (2, .int l2)]) dWriter_segments_35 (Nat.le_of_ble_eq_true rfl) rfl ?_
      refine ee_pick [1, 2, 3, 0] rfl ?_
      exact t_fWriter_segments_36 FUEL _ _ _ _ w
    · refine ee_aload_n 1 dWriter_segments_12 rfl ?_
      refine ee_iload_n 2 dWriter_segments_13 rfl ?_
      refine ee_iload_n 3 dWriter_segments_14 rfl ?_
      refine ee_bind (fun _ ho15 => ?_)
      refine ee_callV (as := [.int l2, .int l3]) (st := []) dWriter_segments_15 (t_fSettings_hasStyle l1 l2 l3 w) my_fSettings_hasStyle.1 (Nat.le_of_ble_eq_true rfl) my_fSettings_hasStyle.2 rfl cf_7.1 rfl (p_obj_eq.mp ho15) gw_480 gw_481 gw_482 ⟨Nat.le_of_ble_eq_true rfl, Nat.le_of_ble_eq_true rfl⟩ (Nat.le_of_ble_eq_true rfl) (fun rv15 w15 _ => ?_)
      refine ee_kI (fun v15 => ?_)
      refine ee_if_eq (tgt := 28) dWriter_segments_18 (by decide) (fun h18 => ?_) (fun h18 => ?_)
      · refine ee_iinc 3 dWriter_segments_28 rfl (e := (1 : Int32)) (by decide) (Nat.le_of_ble_eq_true rfl) (fun l3_28 _ => ?_)
        refine ee_lv (lv2 := [(3, .int l3_28), (0, .ref l0), (1, .ref l1), (2, .int l2)]) rfl ?_
        refine ee_goto (tgt := 2) dWriter_segments_31 (by decide) ?_
        refine ee_pick [1, 2, 3, 0] rfl ?_
        exact ih _ _ _ _ w15
      · refine ee_aload_n 0 dWriter_segments_21 rfl ?_
        refine ee_aload_n 1 dWriter_segments_22 rfl ?_
        refine ee_iload_n 2 dWriter_segments_23 rfl ?_
        refine ee_iload_n 3 dWriter_segments_24 rfl ?_
        refine ee_bind (fun _ ho25 => ?_)
        refine ee_callV (as := [.ref l1, .int l2, .int l3]) (st := []) dWriter_segments_25 (t_fWriter_style l0 l1 l2 l3 w15) my_fWriter_style.1 (Nat.le_of_ble_eq_true rfl) my_fWriter_style.2 rfl cf_9.1 rfl (p_obj_eq.mp ho25) gw_484 gw_485 gw_486 ⟨Nat.le_of_ble_eq_true rfl, Nat.le_of_ble_eq_true rfl⟩ (Nat.le_of_ble_eq_true rfl) (fun rv25 w25 _ => ?_)
        refine ee_kV ?_
        refine ee_iinc 3 dWriter_segments_28 rfl (e := (1 : Int32)) (by decide) (Nat.le_of_ble_eq_true rfl) (fun l3_28 _ => ?_)
        refine ee_lv (lv2 := [(3, .int l3_28), (0, .ref l0), (1, .ref l1), (2, .int l2)]) rfl ?_
        refine ee_goto (tgt := 2) dWriter_segments_31 (by decide) ?_
        refine ee_pick [1, 2, 3, 0] rfl ?_
        exact ih _ _ _ _ w25
def fWriter_segments (l0 : Nat) (l1 : Nat) (l2 : Int32) (w : PW) : PX := fWriter_segments_2 FUEL l0 l1 l2 (-1 : Int32) w
set_option maxRecDepth 20000 in
set_option maxHeartbeats 2000000 in
theorem t_fWriter_segments {Γ : PG} : ∀ (l0 : Nat) (l1 : Nat) (l2 : Int32) (w : PW), EE Γ MWriter_segments 0 (lv_args 0 [.ref l0, .ref l1, .int l2]) [] w (fWriter_segments l0 l1 l2 w) := by
  intro l0 l1 l2 w
  unfold fWriter_segments
  show EE Γ MWriter_segments 0 [(0, .ref l0), (1, .ref l1), (2, .int l2)] [] w _
  refine ee_iconst (v := (-1 : Int32)) dWriter_segments_0 (by decide) ?_
  refine ee_istore_n (lv2 := [(3, .int (-1 : Int32)), (0, .ref l0), (1, .ref l1), (2, .int l2)]) dWriter_segments_1 (Nat.le_of_ble_eq_true rfl) rfl ?_
  refine ee_pick [1, 2, 3, 0] rfl ?_
  exact t_fWriter_segments_2 FUEL _ _ _ _ w
def fWriter_packetLengths_118 (k_77 : Nat → Nat → Int32 → Int32 → PW → PX) (l0 : Nat) (l1 : Nat) (l2 : Int32) (l4 : Int32) (l5 : Int32) (w : PW) : PX := (p_getR w l0 9 0).bind fun v119 => (p_irem l5 (128 : Int32)).bind fun v127 => (p_obj w v119 2).bind fun _ => p_call (fBytes_append v119 v127 w) <| p_kI fun v128 w128 => p_let (l4 + (1 : Int32)) fun (l4_132 : Int32) => k_77 l0 l1 l2 l4_132 w128
set_option maxRecDepth 20000 in
set_option maxHeartbeats 2000000 in
theorem t_fWriter_packetLengths_118 {Γ : PG} {k_77 : Nat → Nat → Int32 → Int32 → PW → PX} (hk_77 : ∀ (l0 : Nat) (l1 : Nat) (l2 : Int32) (l4 : Int32) (w : PW), EE Γ MWriter_packetLengths 77 [(0, .ref l0), (1, .ref l1), (2, .int l2), (4, .int l4)] [] w (k_77 l0 l1 l2 l4 w)) : ∀ (l0 : Nat) (l1 : Nat) (l2 : Int32) (l4 : Int32) (l5 : Int32) (w : PW), EE Γ MWriter_packetLengths 118 [(0, .ref l0), (1, .ref l1), (2, .int l2), (4, .int l4), (5, .int l5)] [] w (fWriter_packetLengths_118 k_77 l0 l1 l2 l4 l5 w) := by
  intro l0 l1 l2 l4 l5 w
  unfold fWriter_packetLengths_118
  refine ee_aload_n 0 dWriter_packetLengths_118 rfl ?_
  refine ee_getR dWriter_packetLengths_119 lfWriter_14 (fun v119 _ => ?_)
  refine ee_iload 4 dWriter_packetLengths_122 rfl ?_
  refine ee_sipush (v := (128 : Int32)) dWriter_packetLengths_124 (by decide) ?_
  refine ee_irem dWriter_packetLengths_127 (fun v127 _ => ?_)
  refine ee_bind (fun _ ho128 => ?_)
  refine ee_callV (as := [.int v127]) (st := []) dWriter_packetLengths_128 (t_fBytes_append v119 v127 w) my_fBytes_append.1 (Nat.le_of_ble_eq_true rfl) my_fBytes_append.2 rfl cf_2.1 rfl (p_obj_eq.mp ho128) gw_430 gw_378 gw_379 ⟨Nat.le_of_ble_eq_true rfl, Nat.le_of_ble_eq_true rfl⟩ (Nat.le_of_ble_eq_true rfl) (fun rv128 w128 _ => ?_)
  refine ee_kI (fun v128 => ?_)
  refine ee_pop dWriter_packetLengths_131 rfl ?_
  refine ee_iinc 3 dWriter_packetLengths_132 rfl (e := (1 : Int32)) (by decide) (Nat.le_of_ble_eq_true rfl) (fun l4_132 _ => ?_)
  refine ee_lv (lv2 := [(4, .int l4_132), (0, .ref l0), (1, .ref l1), (2, .int l2), (5, .int l5)]) rfl ?_
  refine ee_goto (tgt := 77) dWriter_packetLengths_135 (by decide) ?_
  refine ee_pick [1, 2, 3, 0] rfl ?_
  exact hk_77 _ _ _ _ w128
def fWriter_packetLengths_77 : Nat → Nat → Nat → Int32 → Int32 → PW → PX
  | 0, _, _, _, _, _ => none
  | n9 + 1, l0, l1, l2, l4, w => if l2 ≤ l4 then (some (.inl none, w)) else ((p_getR w l1 8 2).bind fun v84 => (p_ald w v84 0 l4).bind fun v89 => if v89 < (128 : Int32) then (fWriter_packetLengths_118 (fWriter_packetLengths_77 n9) l0 l1 l2 l4 v89 w) else ((p_getR w l0 9 0).bind fun v101 => (p_idiv v89 (128 : Int32)).bind fun v112 => (p_obj w v101 2).bind fun _ => p_call (fBytes_append v101 ((128 : Int32) + v112) w) <| p_kI fun v114 w114 => fWriter_packetLengths_118 (fWriter_packetLengths_77 n9) l0 l1 l2 l4 v89 w114))
set_option maxRecDepth 20000 in
set_option maxHeartbeats 2000000 in
theorem t_fWriter_packetLengths_77 {Γ : PG} : ∀ (n9 : Nat) (l0 : Nat) (l1 : Nat) (l2 : Int32) (l4 : Int32) (w : PW), EE Γ MWriter_packetLengths 77 [(0, .ref l0), (1, .ref l1), (2, .int l2), (4, .int l4)] [] w (fWriter_packetLengths_77 n9 l0 l1 l2 l4 w) := by
  intro n9
  induction n9 with
  | zero => intro l0 l1 l2 l4 w; exact ee_none
  | succ n9 ih =>
    intro l0 l1 l2 l4 w
    unfold fWriter_packetLengths_77
    refine ee_iload 3 dWriter_packetLengths_77 rfl ?_
    refine ee_iload_n 2 dWriter_packetLengths_79 rfl ?_
    refine ee_icmp_ge (tgt := 138) dWriter_packetLengths_80 (by decide) (fun h80 => ?_) (fun h80 => ?_)
    · exact ee_vret rfl dWriter_packetLengths_138
    · refine ee_aload_n 1 dWriter_packetLengths_83 rfl ?_
      refine ee_getR dWriter_packetLengths_84 lfWriter_153 (fun v84 _ => ?_)
      refine ee_iload 3 dWriter_packetLengths_87 rfl ?_
      refine ee_iald (t := 0) dWriter_packetLengths_89 rfl (fun v89 _ => ?_)
      refine ee_istore (lv2 := [(5, .int v89), (0, .ref l0), (1, .ref l1), (2, .int l2), (4, .int l4)]) dWriter_packetLengths_90 (Nat.le_of_ble_eq_true rfl) rfl ?_
      refine ee_iload 0 dWriter_packetLengths_92 rfl ?_
      refine ee_sipush (v := (128 : Int32)) dWriter_packetLengths_94 (by decide) ?_
      refine ee_icmp_lt (tgt := 118) dWriter_packetLengths_97 (by decide) (fun h97 => ?_) (fun h97 => ?_)
      · refine ee_pick [1, 2, 3, 4, 0] rfl ?_
        exact t_fWriter_packetLengths_118 ih _ _ _ _ _ w
      · refine ee_aload_n 1 dWriter_packetLengths_100 rfl ?_
        refine ee_getR dWriter_packetLengths_101 lfWriter_14 (fun v101 _ => ?_)
        refine ee_sipush (v := (128 : Int32)) dWriter_packetLengths_104 (by decide) ?_
        refine ee_iload 0 dWriter_packetLengths_107 rfl ?_
        refine ee_sipush (v := (128 : Int32)) dWriter_packetLengths_109 (by decide) ?_
        refine ee_idiv dWriter_packetLengths_112 (fun v112 _ => ?_)
        refine ee_iadd dWriter_packetLengths_113 ?_
        refine ee_bind (fun _ ho114 => ?_)
        refine ee_callV (as := [.int ((128 : Int32) + v112)]) (st := []) dWriter_packetLengths_114 (t_fBytes_append v101 ((128 : Int32) + v112) w) my_fBytes_append.1 (Nat.le_of_ble_eq_true rfl) my_fBytes_append.2 rfl cf_2.1 rfl (p_obj_eq.mp ho114) gw_430 gw_378 gw_379 ⟨Nat.le_of_ble_eq_true rfl, Nat.le_of_ble_eq_true rfl⟩ (Nat.le_of_ble_eq_true rfl) (fun rv114 w114 _ => ?_)
        refine ee_kI (fun v114 => ?_)
        refine ee_pop dWriter_packetLengths_117 rfl ?_
        refine ee_pick [1, 2, 3, 4, 0] rfl ?_
        exact t_fWriter_packetLengths_118 ih _ _ _ _ _ w114
def fWriter_packetLengths_40 (k_15 : Nat → Nat → Int32 → Int32 → Int32 → PW → PX) (l0 : Nat) (l1 : Nat) (l2 : Int32) (l4 : Int32) (s0 : Int32) (s1 : Int32) (w : PW) : PX := p_let ((s1 + s0)) fun (l3_41 : Int32) => p_let (l4 + (1 : Int32)) fun (l4_42 : Int32) => k_15 l0 l1 l2 l3_41 l4_42 w
set_option maxRecDepth 20000 in
set_option maxHeartbeats 2000000 in
theorem t_fWriter_packetLengths_40 {Γ : PG} {k_15 : Nat → Nat → Int32 → Int32 → Int32 → PW → PX} (hk_15 : ∀ (l0 : Nat) (l1 : Nat) (l2 : Int32) (l3 : Int32) (l4 : Int32) (w : PW), EE Γ MWriter_packetLengths 15 [(0, .ref l0), (1, .ref l1), (2, .int l2), (3, .int l3), (4, .int l4)] [] w (k_15 l0 l1 l2 l3 l4 w)) : ∀ (l0 : Nat) (l1 : Nat) (l2 : Int32) (l4 : Int32) (s0 : Int32) (s1 : Int32) (w : PW), EE Γ MWriter_packetLengths 40 [(0, .ref l0), (1, .ref l1), (2, .int l2), (4, .int l4)] [.int s0, .int s1] w (fWriter_packetLengths_40 k_15 l0 l1 l2 l4 s0 s1 w) := by
  intro l0 l1 l2 l4 s0 s1 w
  unfold fWriter_packetLengths_40
  refine ee_iadd dWriter_packetLengths_40 ?_
  refine ee_letI (fun l3_41 _ => ?_)
  refine ee_istore_n (lv2 := [(3, .int l3_41), (0, .ref l0), (1, .ref l1), (2, .int l2), (4, .int l4)]) dWriter_packetLengths_41 (Nat.le_of_ble_eq_true rfl) rfl ?_
  refine ee_iinc 4 dWriter_packetLengths_42 rfl (e := (1 : Int32)) (by decide) (Nat.le_of_ble_eq_true rfl) (fun l4_42 _ => ?_)
  refine ee_lv (lv2 := [(4, .int l4_42), (3, .int l3_41), (0, .ref l0), (1, .ref l1), (2, .int l2)]) rfl ?_
  refine ee_goto (tgt := 15) dWriter_packetLengths_45 (by decide) ?_
  refine ee_pick [2, 3, 4, 1, 0] rfl ?_
  exact hk_15 _ _ _ _ _ w
def fWriter_packetLengths_15 : Nat → Nat → Nat → Int32 → Int32 → Int32 → PW → PX
  | 0, _, _, _, _, _, _ => none
  | n9 + 1, l0, l1, l2, l3, l4, w => if l2 ≤ l4 then ((p_obj w l0 9).bind fun _ => p_call (fWriter_code l0 (88 : Int32) w) <| p_kV fun w51 => (p_getR w51 l0 9 0).bind fun v55 => (p_obj w51 v55 2).bind fun _ => p_call (fBytes_appendNumber v55 ((3 : Int32) + l3) (2 : Int32) w51) <| p_kV fun w62 => (p_getR w62 l0 9 0).bind fun v66 => (p_obj w62 v66 2).bind fun _ => p_call (fBytes_append v66 (0 : Int32) w62) <| p_kI fun v70 w70 => fWriter_packetLengths_77 FUEL l0 l1 l2 (0 : Int32) w70) else ((p_getR w l1 8 2).bind fun v23 => (p_ald w v23 0 l4).bind fun v28 => if (128 : Int32) ≤ v28 then (fWriter_packetLengths_40 (fWriter_packetLengths_15 n9) l0 l1 l2 l4 (2 : Int32) l3 w) else (fWriter_packetLengths_40 (fWriter_packetLengths_15 n9) l0 l1 l2 l4 (1 : Int32) l3 w))
set_option maxRecDepth 20000 in
set_option maxHeartbeats 2000000 in
theorem t_fWriter_packetLengths_15 {Γ : PG} : ∀ (n9 : Nat) (l0 : Nat) (l1 : Nat) (l2 : Int32) (l3 : Int32) (l4 : Int32) (w : PW), EE Γ MWriter_packetLengths 15 [(0, .ref l0), (1, .ref l1), (2, .int l2), (3, .int l3), (4, .int l4)] [] w (fWriter_packetLengths_15 n9 l0 l1 l2 l3 l4 w) := by
  intro n9
  induction n9 with
  | zero => intro l0 l1 l2 l3 l4 w; exact ee_none
  | succ n9 ih =>
    intro l0 l1 l2 l3 l4 w
    unfold fWriter_packetLengths_15
    refine ee_iload 4 dWriter_packetLengths_15 rfl ?_
    refine ee_iload_n 2 dWriter_packetLengths_17 rfl ?_
    refine ee_icmp_ge (tgt := 48) dWriter_packetLengths_18 (by decide) (fun h18 => ?_) (fun h18 => ?_)
    · refine ee_aload_n 0 dWriter_packetLengths_48 rfl ?_
      refine ee_bipush (v := (88 : Int32)) dWriter_packetLengths_49 (by decide) ?_
      refine ee_bind (fun _ ho51 => ?_)
      refine ee_callV (as := [.int (88 : Int32)]) (st := []) dWriter_packetLengths_51 (t_fWriter_code l0 (88 : Int32) w) my_fWriter_code.1 (Nat.le_of_ble_eq_true rfl) my_fWriter_code.2 rfl cf_9.1 rfl (p_obj_eq.mp ho51) gw_468 gw_469 gw_470 ⟨Nat.le_of_ble_eq_true rfl, Nat.le_of_ble_eq_true rfl⟩ (Nat.le_of_ble_eq_true rfl) (fun rv51 w51 _ => ?_)
      refine ee_kV ?_
      refine ee_aload_n 0 dWriter_packetLengths_54 rfl ?_
      refine ee_getR dWriter_packetLengths_55 lfWriter_14 (fun v55 _ => ?_)
      refine ee_iconst (v := (3 : Int32)) dWriter_packetLengths_58 (by decide) ?_
      refine ee_iload_n 3 dWriter_packetLengths_59 rfl ?_
      refine ee_iadd dWriter_packetLengths_60 ?_
      refine ee_iconst (v := (2 : Int32)) dWriter_packetLengths_61 (by decide) ?_
      refine ee_bind (fun _ ho62 => ?_)
      refine ee_callV (as := [.int ((3 : Int32) + l3), .int (2 : Int32)]) (st := []) dWriter_packetLengths_62 (t_fBytes_appendNumber v55 ((3 : Int32) + l3) (2 : Int32) w51) my_fBytes_appendNumber.1 (Nat.le_of_ble_eq_true rfl) my_fBytes_appendNumber.2 rfl cf_2.1 rfl (p_obj_eq.mp ho62) gw_373 gw_374 gw_375 ⟨Nat.le_of_ble_eq_true rfl, Nat.le_of_ble_eq_true rfl⟩ (Nat.le_of_ble_eq_true rfl) (fun rv62 w62 _ => ?_)
      refine ee_kV ?_
      refine ee_aload_n 0 dWriter_packetLengths_65 rfl ?_
      refine ee_getR dWriter_packetLengths_66 lfWriter_14 (fun v66 _ => ?_)
      refine ee_iconst (v := (0 : Int32)) dWriter_packetLengths_69 (by decide) ?_
      refine ee_bind (fun _ ho70 => ?_)
      refine ee_callV (as := [.int (0 : Int32)]) (st := []) dWriter_packetLengths_70 (t_fBytes_append v66 (0 : Int32) w62) my_fBytes_append.1 (Nat.le_of_ble_eq_true rfl) my_fBytes_append.2 rfl cf_2.1 rfl (p_obj_eq.mp ho70) gw_430 gw_378 gw_379 ⟨Nat.le_of_ble_eq_true rfl, Nat.le_of_ble_eq_true rfl⟩ (Nat.le_of_ble_eq_true rfl) (fun rv70 w70 _ => ?_)
      refine ee_kI (fun v70 => ?_)
      refine ee_pop dWriter_packetLengths_73 rfl ?_
      refine ee_iconst (v := (0 : Int32)) dWriter_packetLengths_74 (by decide) ?_
      refine ee_istore (lv2 := [(4, .int (0 : Int32)), (0, .ref l0), (1, .ref l1), (2, .int l2), (3, .int l3)]) dWriter_packetLengths_75 (Nat.le_of_ble_eq_true rfl) rfl ?_
      refine ee_pick [1, 2, 3, 0] rfl ?_
      exact t_fWriter_packetLengths_77 FUEL _ _ _ _ w70
    · refine ee_iload_n 3 dWriter_packetLengths_21 rfl ?_
      refine ee_aload_n 1 dWriter_packetLengths_22 rfl ?_
      refine ee_getR dWriter_packetLengths_23 lfWriter_153 (fun v23 _ => ?_)
      refine ee_iload 4 dWriter_packetLengths_26 rfl ?_
      refine ee_iald (t := 0) dWriter_packetLengths_28 rfl (fun v28 _ => ?_)
      refine ee_sipush (v := (128 : Int32)) dWriter_packetLengths_29 (by decide) ?_
      refine ee_icmp_ge (tgt := 39) dWriter_packetLengths_32 (by decide) (fun h32 => ?_) (fun h32 => ?_)
      · refine ee_iconst (v := (2 : Int32)) dWriter_packetLengths_39 (by decide) ?_
        refine ee_pick [0, 1, 2, 4] rfl ?_
        exact t_fWriter_packetLengths_40 ih _ _ _ _ _ _ w
      · refine ee_iconst (v := (1 : Int32)) dWriter_packetLengths_35 (by decide) ?_
        refine ee_goto (tgt := 40) dWriter_packetLengths_36 (by decide) ?_
        refine ee_pick [0, 1, 2, 4] rfl ?_
        exact t_fWriter_packetLengths_40 ih _ _ _ _ _ _ w
def fWriter_packetLengths (l0 : Nat) (l1 : Nat) (w : PW) : PX := (p_getI w l1 8 4).bind fun v1 => p_let ((p_min v1 (20 : Int32))) fun (l2_9 : Int32) => fWriter_packetLengths_15 FUEL l0 l1 l2_9 (0 : Int32) (0 : Int32) w
set_option maxRecDepth 20000 in
set_option maxHeartbeats 2000000 in
theorem t_fWriter_packetLengths {Γ : PG} : ∀ (l0 : Nat) (l1 : Nat) (w : PW), EE Γ MWriter_packetLengths 0 (lv_args 0 [.ref l0, .ref l1]) [] w (fWriter_packetLengths l0 l1 w) := by
  intro l0 l1 w
  unfold fWriter_packetLengths
  show EE Γ MWriter_packetLengths 0 [(0, .ref l0), (1, .ref l1)] [] w _
  refine ee_aload_n 1 dWriter_packetLengths_0 rfl ?_
  refine ee_getI dWriter_packetLengths_1 lfWriter_142 (fun v1 _ => ?_)
  refine ee_bipush (v := (20 : Int32)) dWriter_packetLengths_4 (by decide) ?_
  refine ee_mmin dWriter_packetLengths_6 gw_505 gw_mmins gw_mi gw_mminc ⟨Nat.le_of_ble_eq_true rfl, Nat.le_of_ble_eq_true rfl⟩ ?_
  refine ee_letI (fun l2_9 _ => ?_)
  refine ee_istore_n (lv2 := [(2, .int l2_9), (0, .ref l0), (1, .ref l1)]) dWriter_packetLengths_9 (Nat.le_of_ble_eq_true rfl) rfl ?_
  refine ee_iconst (v := (0 : Int32)) dWriter_packetLengths_10 (by decide) ?_
  refine ee_istore_n (lv2 := [(3, .int (0 : Int32)), (2, .int l2_9), (0, .ref l0), (1, .ref l1)]) dWriter_packetLengths_11 (Nat.le_of_ble_eq_true rfl) rfl ?_
  refine ee_iconst (v := (0 : Int32)) dWriter_packetLengths_12 (by decide) ?_
  refine ee_istore (lv2 := [(4, .int (0 : Int32)), (3, .int (0 : Int32)), (2, .int l2_9), (0, .ref l0), (1, .ref l1)]) dWriter_packetLengths_13 (Nat.le_of_ble_eq_true rfl) rfl ?_
  refine ee_pick [3, 4, 2, 1, 0] rfl ?_
  exact t_fWriter_packetLengths_15 FUEL _ _ _ _ _ w
def fWriter_onePart_95 (l0 : Nat) (l2 : Nat) (l3 : Int32) (w : PW) : PX := (p_obj w l0 9).bind fun _ => p_call (fWriter_code l0 (147 : Int32) w) <| p_kV fun w99 => (p_getR w99 l2 8 3).bind fun v104 => (p_obj w99 l0 9).bind fun _ => p_call (fWriter_appendAll l0 v104 w99) <| p_kV fun w107 => (p_getR w107 l0 9 0).bind fun v111 => (p_getR w107 l0 9 0).bind fun v119 => (p_getI w107 v119 2 2).bind fun v122 => (p_obj w107 v111 2).bind fun _ => p_call (fBytes_putNumber4 v111 (l3 + (6 : Int32)) (v122 - l3) w107) <| p_kV fun w127 => some (.inl none, w127)
set_option maxRecDepth 20000 in
set_option maxHeartbeats 2000000 in
theorem t_fWriter_onePart_95 {Γ : PG} : ∀ (l0 : Nat) (l2 : Nat) (l3 : Int32) (w : PW), EE Γ MWriter_onePart 95 [(0, .ref l0), (2, .ref l2), (3, .int l3)] [] w (fWriter_onePart_95 l0 l2 l3 w) := by
  intro l0 l2 l3 w
  unfold fWriter_onePart_95
  refine ee_aload_n 0 dWriter_onePart_95 rfl ?_
  refine ee_sipush (v := (147 : Int32)) dWriter_onePart_96 (by decide) ?_
  refine ee_bind (fun _ ho99 => ?_)
  refine ee_callV (as := [.int (147 : Int32)]) (st := []) dWriter_onePart_99 (t_fWriter_code l0 (147 : Int32) w) my_fWriter_code.1 (Nat.le_of_ble_eq_true rfl) my_fWriter_code.2 rfl cf_9.1 rfl (p_obj_eq.mp ho99) gw_468 gw_469 gw_470 ⟨Nat.le_of_ble_eq_true rfl, Nat.le_of_ble_eq_true rfl⟩ (Nat.le_of_ble_eq_true rfl) (fun rv99 w99 _ => ?_)
  refine ee_kV ?_
  refine ee_aload_n 0 dWriter_onePart_102 rfl ?_
  refine ee_aload_n 1 dWriter_onePart_103 rfl ?_
  refine ee_getR dWriter_onePart_104 lfWriter_149 (fun v104 _ => ?_)
  refine ee_bind (fun _ ho107 => ?_)
  refine ee_callV (as := [.ref v104]) (st := []) dWriter_onePart_107 (t_fWriter_appendAll l0 v104 w99) my_fWriter_appendAll.1 (Nat.le_of_ble_eq_true rfl) my_fWriter_appendAll.2 rfl cf_9.1 rfl (p_obj_eq.mp ho107) gw_454 gw_455 gw_456 ⟨Nat.le_of_ble_eq_true rfl, Nat.le_of_ble_eq_true rfl⟩ (Nat.le_of_ble_eq_true rfl) (fun rv107 w107 _ => ?_)
  refine ee_kV ?_
  refine ee_aload_n 0 dWriter_onePart_110 rfl ?_
  refine ee_getR dWriter_onePart_111 lfWriter_14 (fun v111 _ => ?_)
  refine ee_iload_n 2 dWriter_onePart_114 rfl ?_
  refine ee_bipush (v := (6 : Int32)) dWriter_onePart_115 (by decide) ?_
  refine ee_iadd dWriter_onePart_117 ?_
  refine ee_aload_n 0 dWriter_onePart_118 rfl ?_
  refine ee_getR dWriter_onePart_119 lfWriter_14 (fun v119 _ => ?_)
  refine ee_getI dWriter_onePart_122 lfWriter_20 (fun v122 _ => ?_)
  refine ee_iload_n 2 dWriter_onePart_125 rfl ?_
  refine ee_isub dWriter_onePart_126 ?_
  refine ee_bind (fun _ ho127 => ?_)
  refine ee_callV (as := [.int (l3 + (6 : Int32)), .int (v122 - l3)]) (st := []) dWriter_onePart_127 (t_fBytes_putNumber4 v111 (l3 + (6 : Int32)) (v122 - l3) w107) my_fBytes_putNumber4.1 (Nat.le_of_ble_eq_true rfl) my_fBytes_putNumber4.2 rfl cf_2.1 rfl (p_obj_eq.mp ho127) gw_401 gw_402 gw_403 ⟨Nat.le_of_ble_eq_true rfl, Nat.le_of_ble_eq_true rfl⟩ (Nat.le_of_ble_eq_true rfl) (fun rv127 w127 _ => ?_)
  refine ee_kV ?_
  exact ee_vret rfl dWriter_onePart_130
def fWriter_onePart_83 (l0 : Nat) (l2 : Nat) (l3 : Int32) (w : PW) : PX := (p_getI w l2 8 4).bind fun v84 => if v84 ≤ 0 then (fWriter_onePart_95 l0 l2 l3 w) else ((p_obj w l0 9).bind fun _ => p_call (fWriter_packetLengths l0 l2 w) <| p_kV fun w92 => fWriter_onePart_95 l0 l2 l3 w92)
set_option maxRecDepth 20000 in
set_option maxHeartbeats 2000000 in
theorem t_fWriter_onePart_83 {Γ : PG} : ∀ (l0 : Nat) (l2 : Nat) (l3 : Int32) (w : PW), EE Γ MWriter_onePart 83 [(0, .ref l0), (2, .ref l2), (3, .int l3)] [] w (fWriter_onePart_83 l0 l2 l3 w) := by
  intro l0 l2 l3 w
  unfold fWriter_onePart_83
  refine ee_aload_n 1 dWriter_onePart_83 rfl ?_
  refine ee_getI dWriter_onePart_84 lfWriter_142 (fun v84 _ => ?_)
  refine ee_if_le (tgt := 95) dWriter_onePart_87 (by decide) (fun h87 => ?_) (fun h87 => ?_)
  · exact t_fWriter_onePart_95 _ _ _ w
  · refine ee_aload_n 0 dWriter_onePart_90 rfl ?_
    refine ee_aload_n 1 dWriter_onePart_91 rfl ?_
    refine ee_bind (fun _ ho92 => ?_)
    refine ee_callV (as := [.ref l2]) (st := []) dWriter_onePart_92 (t_fWriter_packetLengths l0 l2 w) my_fWriter_packetLengths.1 (Nat.le_of_ble_eq_true rfl) my_fWriter_packetLengths.2 rfl cf_9.1 rfl (p_obj_eq.mp ho92) gw_501 gw_502 gw_503 ⟨Nat.le_of_ble_eq_true rfl, Nat.le_of_ble_eq_true rfl⟩ (Nat.le_of_ble_eq_true rfl) (fun rv92 w92 _ => ?_)
    refine ee_kV ?_
    exact t_fWriter_onePart_95 _ _ _ w92
def fWriter_onePart (l0 : Nat) (l1 : Nat) (l2 : Nat) (w : PW) : PX := (p_getR w l0 9 0).bind fun v1 => (p_getI w v1 2 2).bind fun v4 => (p_obj w l0 9).bind fun _ => p_call (fWriter_code l0 (144 : Int32) w) <| p_kV fun w12 => (p_getR w12 l0 9 0).bind fun v16 => (p_obj w12 v16 2).bind fun _ => p_call (fBytes_appendNumber v16 (10 : Int32) (2 : Int32) w12) <| p_kV fun w22 => (p_getR w22 l0 9 0).bind fun v26 => (p_getI w22 l2 8 0).bind fun v30 => (p_obj w22 v26 2).bind fun _ => p_call (fBytes_appendNumber v26 v30 (2 : Int32) w22) <| p_kV fun w34 => (p_getR w34 l0 9 0).bind fun v38 => (p_obj w34 v38 2).bind fun _ => p_call (fBytes_appendNumber v38 (0 : Int32) (4 : Int32) w34) <| p_kV fun w43 => (p_getR w43 l0 9 0).bind fun v47 => (p_getI w43 l2 8 1).bind fun v51 => (p_obj w43 v47 2).bind fun _ => p_call (fBytes_append v47 v51 w43) <| p_kI fun v54 w54 => (p_getR w54 l0 9 0).bind fun v59 => (p_obj w54 v59 2).bind fun _ => p_call (fBytes_append v59 (0 : Int32) w54) <| p_kI fun v63 w63 => (p_getI w63 l2 8 1).bind fun v68 => if ¬ v68 = 0 then (fWriter_onePart_83 l0 l2 v4 w63) else ((p_getI w63 l2 8 0).bind fun v77 => (p_obj w63 l0 9).bind fun _ => p_call (fWriter_segments l0 l1 v77 w63) <| p_kV fun w80 => fWriter_onePart_83 l0 l2 v4 w80)
set_option maxRecDepth 20000 in
set_option maxHeartbeats 2000000 in
theorem t_fWriter_onePart {Γ : PG} : ∀ (l0 : Nat) (l1 : Nat) (l2 : Nat) (w : PW), EE Γ MWriter_onePart 0 (lv_args 0 [.ref l0, .ref l1, .ref l2]) [] w (fWriter_onePart l0 l1 l2 w) := by
  intro l0 l1 l2 w
  unfold fWriter_onePart
  show EE Γ MWriter_onePart 0 [(0, .ref l0), (1, .ref l1), (2, .ref l2)] [] w _
  refine ee_aload_n 0 dWriter_onePart_0 rfl ?_
  refine ee_getR dWriter_onePart_1 lfWriter_14 (fun v1 _ => ?_)
  refine ee_getI dWriter_onePart_4 lfWriter_20 (fun v4 _ => ?_)
  refine ee_istore_n (lv2 := [(3, .int v4), (0, .ref l0), (1, .ref l1), (2, .ref l2)]) dWriter_onePart_7 (Nat.le_of_ble_eq_true rfl) rfl ?_
  refine ee_aload_n 1 dWriter_onePart_8 rfl ?_
  refine ee_sipush (v := (144 : Int32)) dWriter_onePart_9 (by decide) ?_
  refine ee_bind (fun _ ho12 => ?_)
  refine ee_callV (as := [.int (144 : Int32)]) (st := []) dWriter_onePart_12 (t_fWriter_code l0 (144 : Int32) w) my_fWriter_code.1 (Nat.le_of_ble_eq_true rfl) my_fWriter_code.2 rfl cf_9.1 rfl (p_obj_eq.mp ho12) gw_468 gw_469 gw_470 ⟨Nat.le_of_ble_eq_true rfl, Nat.le_of_ble_eq_true rfl⟩ (Nat.le_of_ble_eq_true rfl) (fun rv12 w12 _ => ?_)
  refine ee_kV ?_
  refine ee_aload_n 1 dWriter_onePart_15 rfl ?_
  refine ee_getR dWriter_onePart_16 lfWriter_14 (fun v16 _ => ?_)
  refine ee_bipush (v := (10 : Int32)) dWriter_onePart_19 (by decide) ?_
  refine ee_iconst (v := (2 : Int32)) dWriter_onePart_21 (by decide) ?_
  refine ee_bind (fun _ ho22 => ?_)
  refine ee_callV (as := [.int (10 : Int32), .int (2 : Int32)]) (st := []) dWriter_onePart_22 (t_fBytes_appendNumber v16 (10 : Int32) (2 : Int32) w12) my_fBytes_appendNumber.1 (Nat.le_of_ble_eq_true rfl) my_fBytes_appendNumber.2 rfl cf_2.1 rfl (p_obj_eq.mp ho22) gw_373 gw_374 gw_375 ⟨Nat.le_of_ble_eq_true rfl, Nat.le_of_ble_eq_true rfl⟩ (Nat.le_of_ble_eq_true rfl) (fun rv22 w22 _ => ?_)
  refine ee_kV ?_
  refine ee_aload_n 1 dWriter_onePart_25 rfl ?_
  refine ee_getR dWriter_onePart_26 lfWriter_14 (fun v26 _ => ?_)
  refine ee_aload_n 3 dWriter_onePart_29 rfl ?_
  refine ee_getI dWriter_onePart_30 lfWriter_136 (fun v30 _ => ?_)
  refine ee_iconst (v := (2 : Int32)) dWriter_onePart_33 (by decide) ?_
  refine ee_bind (fun _ ho34 => ?_)
  refine ee_callV (as := [.int v30, .int (2 : Int32)]) (st := []) dWriter_onePart_34 (t_fBytes_appendNumber v26 v30 (2 : Int32) w22) my_fBytes_appendNumber.1 (Nat.le_of_ble_eq_true rfl) my_fBytes_appendNumber.2 rfl cf_2.1 rfl (p_obj_eq.mp ho34) gw_373 gw_374 gw_375 ⟨Nat.le_of_ble_eq_true rfl, Nat.le_of_ble_eq_true rfl⟩ (Nat.le_of_ble_eq_true rfl) (fun rv34 w34 _ => ?_)
  refine ee_kV ?_
  refine ee_aload_n 1 dWriter_onePart_37 rfl ?_
  refine ee_getR dWriter_onePart_38 lfWriter_14 (fun v38 _ => ?_)
  refine ee_iconst (v := (0 : Int32)) dWriter_onePart_41 (by decide) ?_
  refine ee_iconst (v := (4 : Int32)) dWriter_onePart_42 (by decide) ?_
  refine ee_bind (fun _ ho43 => ?_)
  refine ee_callV (as := [.int (0 : Int32), .int (4 : Int32)]) (st := []) dWriter_onePart_43 (t_fBytes_appendNumber v38 (0 : Int32) (4 : Int32) w34) my_fBytes_appendNumber.1 (Nat.le_of_ble_eq_true rfl) my_fBytes_appendNumber.2 rfl cf_2.1 rfl (p_obj_eq.mp ho43) gw_373 gw_374 gw_375 ⟨Nat.le_of_ble_eq_true rfl, Nat.le_of_ble_eq_true rfl⟩ (Nat.le_of_ble_eq_true rfl) (fun rv43 w43 _ => ?_)
  refine ee_kV ?_
  refine ee_aload_n 1 dWriter_onePart_46 rfl ?_
  refine ee_getR dWriter_onePart_47 lfWriter_14 (fun v47 _ => ?_)
  refine ee_aload_n 3 dWriter_onePart_50 rfl ?_
  refine ee_getI dWriter_onePart_51 lfWriter_139 (fun v51 _ => ?_)
  refine ee_bind (fun _ ho54 => ?_)
  refine ee_callV (as := [.int v51]) (st := []) dWriter_onePart_54 (t_fBytes_append v47 v51 w43) my_fBytes_append.1 (Nat.le_of_ble_eq_true rfl) my_fBytes_append.2 rfl cf_2.1 rfl (p_obj_eq.mp ho54) gw_430 gw_378 gw_379 ⟨Nat.le_of_ble_eq_true rfl, Nat.le_of_ble_eq_true rfl⟩ (Nat.le_of_ble_eq_true rfl) (fun rv54 w54 _ => ?_)
  refine ee_kI (fun v54 => ?_)
  refine ee_pop dWriter_onePart_57 rfl ?_
  refine ee_aload_n 1 dWriter_onePart_58 rfl ?_
  refine ee_getR dWriter_onePart_59 lfWriter_14 (fun v59 _ => ?_)
  refine ee_iconst (v := (0 : Int32)) dWriter_onePart_62 (by decide) ?_
  refine ee_bind (fun _ ho63 => ?_)
  refine ee_callV (as := [.int (0 : Int32)]) (st := []) dWriter_onePart_63 (t_fBytes_append v59 (0 : Int32) w54) my_fBytes_append.1 (Nat.le_of_ble_eq_true rfl) my_fBytes_append.2 rfl cf_2.1 rfl (p_obj_eq.mp ho63) gw_430 gw_378 gw_379 ⟨Nat.le_of_ble_eq_true rfl, Nat.le_of_ble_eq_true rfl⟩ (Nat.le_of_ble_eq_true rfl) (fun rv63 w63 _ => ?_)
  refine ee_kI (fun v63 => ?_)
  refine ee_pop dWriter_onePart_66 rfl ?_
  refine ee_aload_n 3 dWriter_onePart_67 rfl ?_
  refine ee_getI dWriter_onePart_68 lfWriter_139 (fun v68 _ => ?_)
  refine ee_if_ne (tgt := 83) dWriter_onePart_71 (by decide) (fun h71 => ?_) (fun h71 => ?_)
  · refine ee_pick [1, 3, 0] rfl ?_
    exact t_fWriter_onePart_83 _ _ _ w63
  · refine ee_aload_n 1 dWriter_onePart_74 rfl ?_
    refine ee_aload_n 2 dWriter_onePart_75 rfl ?_
    refine ee_aload_n 3 dWriter_onePart_76 rfl ?_
    refine ee_getI dWriter_onePart_77 lfWriter_136 (fun v77 _ => ?_)
    refine ee_bind (fun _ ho80 => ?_)
    refine ee_callV (as := [.ref l1, .int v77]) (st := []) dWriter_onePart_80 (t_fWriter_segments l0 l1 v77 w63) my_fWriter_segments.1 (Nat.le_of_ble_eq_true rfl) my_fWriter_segments.2 rfl cf_9.1 rfl (p_obj_eq.mp ho80) gw_476 gw_477 gw_478 ⟨Nat.le_of_ble_eq_true rfl, Nat.le_of_ble_eq_true rfl⟩ (Nat.le_of_ble_eq_true rfl) (fun rv80 w80 _ => ?_)
    refine ee_kV ?_
    refine ee_pick [1, 3, 0] rfl ?_
    exact t_fWriter_onePart_83 _ _ _ w80
def fWriter_streamBox_27 : Nat → Nat → Nat → Nat → Int32 → Int32 → PW → PX
  | 0, _, _, _, _, _, _ => none
  | n9 + 1, l0, l1, l2, l3, l4, w => (p_obj w l2 11).bind fun _ => p_call (fAL_size l2 w) <| p_kI fun v30 w30 => if v30 ≤ l4 then ((p_obj w30 l0 9).bind fun _ => p_call (fWriter_code l0 (217 : Int32) w30) <| p_kV fun w60 => (p_obj w60 l0 9).bind fun _ => p_call (fWriter_closeBox l0 l3 w60) <| p_kV fun w65 => some (.inl none, w65)) else ((p_obj w30 l2 11).bind fun _ => p_call (fAL_get l2 l4 w30) <| p_kR fun v41 w41 => (p_obj w41 v41 8).bind fun _ => (p_obj w41 l0 9).bind fun _ => p_call (fWriter_onePart l0 l1 v41 w41) <| p_kV fun w47 => p_let (l4 + (1 : Int32)) fun (l4_50 : Int32) => (fWriter_streamBox_27 n9) l0 l1 l2 l3 l4_50 w47)
set_option maxRecDepth 20000 in
set_option maxHeartbeats 2000000 in
theorem t_fWriter_streamBox_27 {Γ : PG} : ∀ (n9 : Nat) (l0 : Nat) (l1 : Nat) (l2 : Nat) (l3 : Int32) (l4 : Int32) (w : PW), EE Γ MWriter_streamBox 27 [(0, .ref l0), (1, .ref l1), (2, .ref l2), (3, .int l3), (4, .int l4)] [] w (fWriter_streamBox_27 n9 l0 l1 l2 l3 l4 w) := by
  intro n9
  induction n9 with
  | zero => intro l0 l1 l2 l3 l4 w; exact ee_none
  | succ n9 ih =>
    intro l0 l1 l2 l3 l4 w
    unfold fWriter_streamBox_27
    refine ee_iload 4 dWriter_streamBox_27 rfl ?_
    refine ee_aload_n 2 dWriter_streamBox_29 rfl ?_
    refine ee_bind (fun _ ho30 => ?_)
    refine ee_callV (as := []) (st := [.int l4]) dWriter_streamBox_30 (t_fAL_size l2 w) my_fAL_size.1 (Nat.le_of_ble_eq_true rfl) my_fAL_size.2 rfl cf_11.1 rfl (p_obj_eq.mp ho30) gw_435 gw_436 gw_437 ⟨Nat.le_of_ble_eq_true rfl, Nat.le_of_ble_eq_true rfl⟩ (Nat.le_of_ble_eq_true rfl) (fun rv30 w30 _ => ?_)
    refine ee_kI (fun v30 => ?_)
    refine ee_icmp_ge (tgt := 56) dWriter_streamBox_33 (by decide) (fun h33 => ?_) (fun h33 => ?_)
    · refine ee_aload_n 0 dWriter_streamBox_56 rfl ?_
      refine ee_sipush (v := (217 : Int32)) dWriter_streamBox_57 (by decide) ?_
      refine ee_bind (fun _ ho60 => ?_)
      refine ee_callV (as := [.int (217 : Int32)]) (st := []) dWriter_streamBox_60 (t_fWriter_code l0 (217 : Int32) w30) my_fWriter_code.1 (Nat.le_of_ble_eq_true rfl) my_fWriter_code.2 rfl cf_9.1 rfl (p_obj_eq.mp ho60) gw_468 gw_469 gw_470 ⟨Nat.le_of_ble_eq_true rfl, Nat.le_of_ble_eq_true rfl⟩ (Nat.le_of_ble_eq_true rfl) (fun rv60 w60 _ => ?_)
      refine ee_kV ?_
      refine ee_aload_n 0 dWriter_streamBox_63 rfl ?_
      refine ee_iload_n 3 dWriter_streamBox_64 rfl ?_
      refine ee_bind (fun _ ho65 => ?_)
      refine ee_callV (as := [.int l3]) (st := []) dWriter_streamBox_65 (t_fWriter_closeBox l0 l3 w60) my_fWriter_closeBox.1 (Nat.le_of_ble_eq_true rfl) my_fWriter_closeBox.2 rfl cf_9.1 rfl (p_obj_eq.mp ho65) gw_397 gw_398 gw_399 ⟨Nat.le_of_ble_eq_true rfl, Nat.le_of_ble_eq_true rfl⟩ (Nat.le_of_ble_eq_true rfl) (fun rv65 w65 _ => ?_)
      refine ee_kV ?_
      exact ee_vret rfl dWriter_streamBox_68
    · refine ee_aload_n 0 dWriter_streamBox_36 rfl ?_
      refine ee_aload_n 1 dWriter_streamBox_37 rfl ?_
      refine ee_aload_n 2 dWriter_streamBox_38 rfl ?_
      refine ee_iload 4 dWriter_streamBox_39 rfl ?_
      refine ee_bind (fun _ ho41 => ?_)
      refine ee_callV (as := [.int l4]) (st := [.ref l1, .ref l0]) dWriter_streamBox_41 (t_fAL_get l2 l4 w30) my_fAL_get.1 (Nat.le_of_ble_eq_true rfl) my_fAL_get.2 rfl cf_11.1 rfl (p_obj_eq.mp ho41) gw_439 gw_440 gw_441 ⟨Nat.le_of_ble_eq_true rfl, Nat.le_of_ble_eq_true rfl⟩ (Nat.le_of_ble_eq_true rfl) (fun rv41 w41 _ => ?_)
      refine ee_kR (fun v41 => ?_)
      refine ee_bind (fun _ ho44 => ?_)
      refine ee_cast dWriter_streamBox_44 cf_8.1 gw_496 gw_1612 (p_obj_eq.mp ho44) ?_
      refine ee_bind (fun _ ho47 => ?_)
      refine ee_callV (as := [.ref l1, .ref v41]) (st := []) dWriter_streamBox_47 (t_fWriter_onePart l0 l1 v41 w41) my_fWriter_onePart.1 (Nat.le_of_ble_eq_true rfl) my_fWriter_onePart.2 rfl cf_9.1 rfl (p_obj_eq.mp ho47) gw_497 gw_498 gw_499 ⟨Nat.le_of_ble_eq_true rfl, Nat.le_of_ble_eq_true rfl⟩ (Nat.le_of_ble_eq_true rfl) (fun rv47 w47 _ => ?_)
      refine ee_kV ?_
      refine ee_iinc 4 dWriter_streamBox_50 rfl (e := (1 : Int32)) (by decide) (Nat.le_of_ble_eq_true rfl) (fun l4_50 _ => ?_)
      refine ee_lv (lv2 := [(4, .int l4_50), (0, .ref l0), (1, .ref l1), (2, .ref l2), (3, .int l3)]) rfl ?_
      refine ee_goto (tgt := 27) dWriter_streamBox_53 (by decide) ?_
      refine ee_pick [1, 2, 3, 4, 0] rfl ?_
      exact ih _ _ _ _ _ w47
def fWriter_streamBox (l0 : Nat) (l1 : Nat) (l2 : Nat) (w : PW) : PX := (p_obj w l0 9).bind fun _ => p_call (fWriter_openBox l0 (1785737827 : Int32) w) <| p_kI fun v3 w3 => (p_obj w3 l0 9).bind fun _ => p_call (fWriter_code l0 (79 : Int32) w3) <| p_kV fun w10 => (p_obj w10 l0 9).bind fun _ => p_call (fWriter_sizes l0 l1 w10) <| p_kV fun w15 => (p_obj w15 l0 9).bind fun _ => p_call (fWriter_segments l0 l1 (-1 : Int32) w15) <| p_kV fun w21 => fWriter_streamBox_27 FUEL l0 l1 l2 v3 (0 : Int32) w21
set_option maxRecDepth 20000 in
set_option maxHeartbeats 2000000 in
theorem t_fWriter_streamBox {Γ : PG} : ∀ (l0 : Nat) (l1 : Nat) (l2 : Nat) (w : PW), EE Γ MWriter_streamBox 0 (lv_args 0 [.ref l0, .ref l1, .ref l2]) [] w (fWriter_streamBox l0 l1 l2 w) := by
  intro l0 l1 l2 w
  unfold fWriter_streamBox
  show EE Γ MWriter_streamBox 0 [(0, .ref l0), (1, .ref l1), (2, .ref l2)] [] w _
  refine ee_aload_n 0 dWriter_streamBox_0 rfl ?_
  refine ee_ldc (v := (1785737827 : Int32)) dWriter_streamBox_1 gw_467 ?_
  refine ee_bind (fun _ ho3 => ?_)
  refine ee_callV (as := [.int (1785737827 : Int32)]) (st := []) dWriter_streamBox_3 (t_fWriter_openBox l0 (1785737827 : Int32) w) my_fWriter_openBox.1 (Nat.le_of_ble_eq_true rfl) my_fWriter_openBox.2 rfl cf_9.1 rfl (p_obj_eq.mp ho3) gw_369 gw_370 gw_371 ⟨Nat.le_of_ble_eq_true rfl, Nat.le_of_ble_eq_true rfl⟩ (Nat.le_of_ble_eq_true rfl) (fun rv3 w3 _ => ?_)
  refine ee_kI (fun v3 => ?_)
  refine ee_istore_n (lv2 := [(3, .int v3), (0, .ref l0), (1, .ref l1), (2, .ref l2)]) dWriter_streamBox_6 (Nat.le_of_ble_eq_true rfl) rfl ?_
  refine ee_aload_n 1 dWriter_streamBox_7 rfl ?_
  refine ee_bipush (v := (79 : Int32)) dWriter_streamBox_8 (by decide) ?_
  refine ee_bind (fun _ ho10 => ?_)
  refine ee_callV (as := [.int (79 : Int32)]) (st := []) dWriter_streamBox_10 (t_fWriter_code l0 (79 : Int32) w3) my_fWriter_code.1 (Nat.le_of_ble_eq_true rfl) my_fWriter_code.2 rfl cf_9.1 rfl (p_obj_eq.mp ho10) gw_468 gw_469 gw_470 ⟨Nat.le_of_ble_eq_true rfl, Nat.le_of_ble_eq_true rfl⟩ (Nat.le_of_ble_eq_true rfl) (fun rv10 w10 _ => ?_)
  refine ee_kV ?_
  refine ee_aload_n 1 dWriter_streamBox_13 rfl ?_
  refine ee_aload_n 2 dWriter_streamBox_14 rfl ?_
  refine ee_bind (fun _ ho15 => ?_)
  refine ee_callV (as := [.ref l1]) (st := []) dWriter_streamBox_15 (t_fWriter_sizes l0 l1 w10) my_fWriter_sizes.1 (Nat.le_of_ble_eq_true rfl) my_fWriter_sizes.2 rfl cf_9.1 rfl (p_obj_eq.mp ho15) gw_472 gw_473 gw_474 ⟨Nat.le_of_ble_eq_true rfl, Nat.le_of_ble_eq_true rfl⟩ (Nat.le_of_ble_eq_true rfl) (fun rv15 w15 _ => ?_)
  refine ee_kV ?_
  refine ee_aload_n 1 dWriter_streamBox_18 rfl ?_
  refine ee_aload_n 2 dWriter_streamBox_19 rfl ?_
  refine ee_iconst (v := (-1 : Int32)) dWriter_streamBox_20 (by decide) ?_
  refine ee_bind (fun _ ho21 => ?_)
  refine ee_callV (as := [.ref l1, .int (-1 : Int32)]) (st := []) dWriter_streamBox_21 (t_fWriter_segments l0 l1 (-1 : Int32) w15) my_fWriter_segments.1 (Nat.le_of_ble_eq_true rfl) my_fWriter_segments.2 rfl cf_9.1 rfl (p_obj_eq.mp ho21) gw_476 gw_477 gw_478 ⟨Nat.le_of_ble_eq_true rfl, Nat.le_of_ble_eq_true rfl⟩ (Nat.le_of_ble_eq_true rfl) (fun rv21 w21 _ => ?_)
  refine ee_kV ?_
  refine ee_iconst (v := (0 : Int32)) dWriter_streamBox_24 (by decide) ?_
  refine ee_istore (lv2 := [(4, .int (0 : Int32)), (3, .int v3), (0, .ref l0), (1, .ref l1), (2, .ref l2)]) dWriter_streamBox_25 (Nat.le_of_ble_eq_true rfl) rfl ?_
  refine ee_pick [2, 3, 4, 1, 0] rfl ?_
  exact t_fWriter_streamBox_27 FUEL _ _ _ _ _ w21
def fBoxReader_init (l0 : Nat) (l1 : Nat) (w : PW) : PX := p_newO w 5 2 [.null, .int 0] fun v5 w5 => p_call (fNumbers_init v5 w5) <| p_kV fun w9 => (p_put w9 l0 1 1 (.ref v5)).bind fun w12 => p_newO w12 5 2 [.null, .int 0] fun v16 w16 => p_call (fNumbers_init v16 w16) <| p_kV fun w20 => (p_put w20 l0 1 2 (.ref v16)).bind fun w23 => (p_put w23 l0 1 3 (.int (-1 : Int32))).bind fun w28 => (p_put w28 l0 1 4 (.int (0 : Int32))).bind fun w33 => (p_put w33 l0 1 5 (.int (0 : Int32))).bind fun w38 => (p_put w38 l0 1 0 (.ref l1)).bind fun w43 => some (.inl none, w43)
set_option maxRecDepth 20000 in
set_option maxHeartbeats 2000000 in
theorem t_fBoxReader_init {Γ : PG} : ∀ (l0 : Nat) (l1 : Nat) (w : PW), EE Γ MBoxReader_init 0 (lv_args 0 [.ref l0, .ref l1]) [] w (fBoxReader_init l0 l1 w) := by
  intro l0 l1 w
  unfold fBoxReader_init
  show EE Γ MBoxReader_init 0 [(0, .ref l0), (1, .ref l1)] [] w _
  refine ee_aload_n 0 dBoxReader_init_0 rfl ?_
  refine ee_objInit dBoxReader_init_1 gw_190 gw_obji gw_objc ⟨Nat.le_of_ble_eq_true rfl, Nat.le_of_ble_eq_true rfl⟩ ?_
  refine ee_aload_n 0 dBoxReader_init_4 rfl ?_
  refine ee_new dBoxReader_init_5 lnBoxReader_9 (fun v5 w5 _ _ => ?_)
  refine ee_dup dBoxReader_init_8 rfl ?_
  refine ee_callIN (as := []) (st := [.ref v5, .ref l0]) dBoxReader_init_9 (t_fNumbers_init v5 w5) my_fNumbers_init.1 (Nat.le_of_ble_eq_true rfl) my_fNumbers_init.2 rfl rfl rfl gw_193 gw_194 ⟨Nat.le_of_ble_eq_true rfl, Nat.le_of_ble_eq_true rfl⟩ (Nat.le_of_ble_eq_true rfl) (fun rv9 w9 _ => ?_)
  refine ee_kV ?_
  refine ee_put dBoxReader_init_12 lpiBoxReader_12 (ee_nR _ _) (fun w12 _ => ?_)
  refine ee_aload_n 0 dBoxReader_init_15 rfl ?_
  refine ee_new dBoxReader_init_16 lnBoxReader_9 (fun v16 w16 _ _ => ?_)
  refine ee_dup dBoxReader_init_19 rfl ?_
  refine ee_callIN (as := []) (st := [.ref v16, .ref l0]) dBoxReader_init_20 (t_fNumbers_init v16 w16) my_fNumbers_init.1 (Nat.le_of_ble_eq_true rfl) my_fNumbers_init.2 rfl rfl rfl gw_193 gw_194 ⟨Nat.le_of_ble_eq_true rfl, Nat.le_of_ble_eq_true rfl⟩ (Nat.le_of_ble_eq_true rfl) (fun rv20 w20 _ => ?_)
  refine ee_kV ?_
  refine ee_put dBoxReader_init_23 lpiBoxReader_18 (ee_nR _ _) (fun w23 _ => ?_)
  refine ee_aload_n 0 dBoxReader_init_26 rfl ?_
  refine ee_iconst (v := (-1 : Int32)) dBoxReader_init_27 (by decide) ?_
  refine ee_put dBoxReader_init_28 lpiBoxReader_21 (ee_nI _) (fun w28 _ => ?_)
  refine ee_aload_n 0 dBoxReader_init_31 rfl ?_
  refine ee_iconst (v := (0 : Int32)) dBoxReader_init_32 (by decide) ?_
  refine ee_put dBoxReader_init_33 lpiBoxReader_25 (ee_nI _) (fun w33 _ => ?_)
  refine ee_aload_n 0 dBoxReader_init_36 rfl ?_
  refine ee_iconst (v := (0 : Int32)) dBoxReader_init_37 (by decide) ?_
  refine ee_put dBoxReader_init_38 lpiBoxReader_28 (ee_nI _) (fun w38 _ => ?_)
  refine ee_aload_n 0 dBoxReader_init_41 rfl ?_
  refine ee_aload_n 1 dBoxReader_init_42 rfl ?_
  refine ee_put dBoxReader_init_43 lpiBoxReader_31 (ee_nR _ _) (fun w43 _ => ?_)
  exact ee_vret rfl dBoxReader_init_46
def fBoxReader_forget (l0 : Nat) (w : PW) : PX := (p_getR w l0 1 1).bind fun v1 => (p_put w v1 5 1 (.int (0 : Int32))).bind fun w5 => (p_getR w5 l0 1 2).bind fun v9 => (p_put w5 v9 5 1 (.int (0 : Int32))).bind fun w13 => (p_put w13 l0 1 3 (.int (-1 : Int32))).bind fun w18 => some (.inl none, w18)
set_option maxRecDepth 20000 in
set_option maxHeartbeats 2000000 in
theorem t_fBoxReader_forget {Γ : PG} : ∀ (l0 : Nat) (w : PW), EE Γ MBoxReader_forget 0 (lv_args 0 [.ref l0]) [] w (fBoxReader_forget l0 w) := by
  intro l0 w
  unfold fBoxReader_forget
  show EE Γ MBoxReader_forget 0 [(0, .ref l0)] [] w _
  refine ee_aload_n 0 dBoxReader_forget_0 rfl ?_
  refine ee_getR dBoxReader_forget_1 lfBoxReader_12 (fun v1 _ => ?_)
  refine ee_iconst (v := (0 : Int32)) dBoxReader_forget_4 (by decide) ?_
  refine ee_put dBoxReader_forget_5 lpBoxReader_35 (ee_nI _) (fun w5 _ => ?_)
  refine ee_aload_n 0 dBoxReader_forget_8 rfl ?_
  refine ee_getR dBoxReader_forget_9 lfBoxReader_18 (fun v9 _ => ?_)
  refine ee_iconst (v := (0 : Int32)) dBoxReader_forget_12 (by decide) ?_
  refine ee_put dBoxReader_forget_13 lpBoxReader_35 (ee_nI _) (fun w13 _ => ?_)
  refine ee_aload_n 0 dBoxReader_forget_16 rfl ?_
  refine ee_iconst (v := (-1 : Int32)) dBoxReader_forget_17 (by decide) ?_
  refine ee_put dBoxReader_forget_18 lpBoxReader_21 (ee_nI _) (fun w18 _ => ?_)
  exact ee_vret rfl dBoxReader_forget_21
def fBoxReader_kindAt (l0 : Nat) (l1 : Int32) (w : PW) : PX := (p_getR w l0 1 0).bind fun v1 => (p_obj w v1 2).bind fun _ => p_call (fBytes_number v1 (l1 + (4 : Int32)) (4 : Int32) w) <| p_kJ fun v8 w8 => some (.inl (some (.int (Int64.toInt32 v8))), w8)
set_option maxRecDepth 20000 in
set_option maxHeartbeats 2000000 in
theorem t_fBoxReader_kindAt {Γ : PG} : ∀ (l0 : Nat) (l1 : Int32) (w : PW), EE Γ MBoxReader_kindAt 0 (lv_args 0 [.ref l0, .int l1]) [] w (fBoxReader_kindAt l0 l1 w) := by
  intro l0 l1 w
  unfold fBoxReader_kindAt
  show EE Γ MBoxReader_kindAt 0 [(0, .ref l0), (1, .int l1)] [] w _
  refine ee_aload_n 0 dBoxReader_kindAt_0 rfl ?_
  refine ee_getR dBoxReader_kindAt_1 lfBoxReader_31 (fun v1 _ => ?_)
  refine ee_iload_n 1 dBoxReader_kindAt_4 rfl ?_
  refine ee_iconst (v := (4 : Int32)) dBoxReader_kindAt_5 (by decide) ?_
  refine ee_iadd dBoxReader_kindAt_6 ?_
  refine ee_iconst (v := (4 : Int32)) dBoxReader_kindAt_7 (by decide) ?_
  refine ee_bind (fun _ ho8 => ?_)
  refine ee_callV (as := [.int (l1 + (4 : Int32)), .int (4 : Int32)]) (st := []) dBoxReader_kindAt_8 (t_fBytes_number v1 (l1 + (4 : Int32)) (4 : Int32) w) my_fBytes_number.1 (Nat.le_of_ble_eq_true rfl) my_fBytes_number.2 rfl cf_2.1 rfl (p_obj_eq.mp ho8) gw_537 gw_538 gw_539 ⟨Nat.le_of_ble_eq_true rfl, Nat.le_of_ble_eq_true rfl⟩ (Nat.le_of_ble_eq_true rfl) (fun rv8 w8 _ => ?_)
  refine ee_kJ (fun v8 => ?_)
  refine ee_l2i dBoxReader_kindAt_11 ?_
  exact ee_iret rfl dBoxReader_kindAt_12
def fBoxReader_beginsWithSignature (l0 : Nat) (w : PW) : PX := (p_getR w l0 1 0).bind fun v1 => (p_getI w v1 2 2).bind fun v4 => if v4 < (12 : Int32) then (p_retZ (0 : Int32) w) else ((p_getR w l0 1 0).bind fun v13 => (p_obj w v13 2).bind fun _ => p_call (fBytes_number v13 (0 : Int32) (4 : Int32) w) <| p_kJ fun v18 w18 => if ¬ (lg_cmp v18 (12 : Int64)) = 0 then (p_retZ (0 : Int32) w18) else ((p_obj w18 l0 1).bind fun _ => p_call (fBoxReader_kindAt l0 (0 : Int32) w18) <| p_kI fun v30 w30 => if ¬ v30 = (1783636000 : Int32) then (p_retZ (0 : Int32) w30) else ((p_getR w30 l0 1 0).bind fun v39 => (p_obj w30 v39 2).bind fun _ => p_call (fBytes_number v39 (8 : Int32) (4 : Int32) w30) <| p_kJ fun v45 w45 => if ¬ (Int64.toInt32 v45) = (218793738 : Int32) then (p_retZ (0 : Int32) w45) else (p_retZ (1 : Int32) w45))))
set_option maxRecDepth 20000 in
set_option maxHeartbeats 2000000 in
theorem t_fBoxReader_beginsWithSignature {Γ : PG} : ∀ (l0 : Nat) (w : PW), EE Γ MBoxReader_beginsWithSignature 0 (lv_args 0 [.ref l0]) [] w (fBoxReader_beginsWithSignature l0 w) := by
  intro l0 w
  unfold fBoxReader_beginsWithSignature
  show EE Γ MBoxReader_beginsWithSignature 0 [(0, .ref l0)] [] w _
  refine ee_aload_n 0 dBoxReader_beginsWithSignature_0 rfl ?_
  refine ee_getR dBoxReader_beginsWithSignature_1 lfBoxReader_31 (fun v1 _ => ?_)
  refine ee_getI dBoxReader_beginsWithSignature_4 lfBoxReader_38 (fun v4 _ => ?_)
  refine ee_bipush (v := (12 : Int32)) dBoxReader_beginsWithSignature_7 (by decide) ?_
  refine ee_icmp_lt (tgt := 58) dBoxReader_beginsWithSignature_9 (by decide) (fun h9 => ?_) (fun h9 => ?_)
  · refine ee_iconst (v := (0 : Int32)) dBoxReader_beginsWithSignature_58 (by decide) ?_
    exact ee_zret rfl dBoxReader_beginsWithSignature_59
  · refine ee_aload_n 0 dBoxReader_beginsWithSignature_12 rfl ?_
    refine ee_getR dBoxReader_beginsWithSignature_13 lfBoxReader_31 (fun v13 _ => ?_)
    refine ee_iconst (v := (0 : Int32)) dBoxReader_beginsWithSignature_16 (by decide) ?_
    refine ee_iconst (v := (4 : Int32)) dBoxReader_beginsWithSignature_17 (by decide) ?_
    refine ee_bind (fun _ ho18 => ?_)
    refine ee_callV (as := [.int (0 : Int32), .int (4 : Int32)]) (st := []) dBoxReader_beginsWithSignature_18 (t_fBytes_number v13 (0 : Int32) (4 : Int32) w) my_fBytes_number.1 (Nat.le_of_ble_eq_true rfl) my_fBytes_number.2 rfl cf_2.1 rfl (p_obj_eq.mp ho18) gw_537 gw_538 gw_539 ⟨Nat.le_of_ble_eq_true rfl, Nat.le_of_ble_eq_true rfl⟩ (Nat.le_of_ble_eq_true rfl) (fun rv18 w18 _ => ?_)
    refine ee_kJ (fun v18 => ?_)
    refine ee_ldc2 (v := (12 : Int64)) dBoxReader_beginsWithSignature_21 gw_544 ?_
    refine ee_lcmp dBoxReader_beginsWithSignature_24 ?_
    refine ee_if_ne (tgt := 58) dBoxReader_beginsWithSignature_25 (by decide) (fun h25 => ?_) (fun h25 => ?_)
    · refine ee_iconst (v := (0 : Int32)) dBoxReader_beginsWithSignature_58 (by decide) ?_
      exact ee_zret rfl dBoxReader_beginsWithSignature_59
    · refine ee_aload_n 0 dBoxReader_beginsWithSignature_28 rfl ?_
      refine ee_iconst (v := (0 : Int32)) dBoxReader_beginsWithSignature_29 (by decide) ?_
      refine ee_bind (fun _ ho30 => ?_)
      refine ee_callV (as := [.int (0 : Int32)]) (st := []) dBoxReader_beginsWithSignature_30 (t_fBoxReader_kindAt l0 (0 : Int32) w18) my_fBoxReader_kindAt.1 (Nat.le_of_ble_eq_true rfl) my_fBoxReader_kindAt.2 rfl cf_1.1 rfl (p_obj_eq.mp ho30) gw_545 gw_546 gw_547 ⟨Nat.le_of_ble_eq_true rfl, Nat.le_of_ble_eq_true rfl⟩ (Nat.le_of_ble_eq_true rfl) (fun rv30 w30 _ => ?_)
      refine ee_kI (fun v30 => ?_)
      refine ee_ldc (v := (1783636000 : Int32)) dBoxReader_beginsWithSignature_33 gw_549 ?_
      refine ee_icmp_ne (tgt := 58) dBoxReader_beginsWithSignature_35 (by decide) (fun h35 => ?_) (fun h35 => ?_)
      · refine ee_iconst (v := (0 : Int32)) dBoxReader_beginsWithSignature_58 (by decide) ?_
        exact ee_zret rfl dBoxReader_beginsWithSignature_59
      · refine ee_aload_n 0 dBoxReader_beginsWithSignature_38 rfl ?_
        refine ee_getR dBoxReader_beginsWithSignature_39 lfBoxReader_31 (fun v39 _ => ?_)
        refine ee_bipush (v := (8 : Int32)) dBoxReader_beginsWithSignature_42 (by decide) ?_
        refine ee_iconst (v := (4 : Int32)) dBoxReader_beginsWithSignature_44 (by decide) ?_
        refine ee_bind (fun _ ho45 => ?_)
        refine ee_callV (as := [.int (8 : Int32), .int (4 : Int32)]) (st := []) dBoxReader_beginsWithSignature_45 (t_fBytes_number v39 (8 : Int32) (4 : Int32) w30) my_fBytes_number.1 (Nat.le_of_ble_eq_true rfl) my_fBytes_number.2 rfl cf_2.1 rfl (p_obj_eq.mp ho45) gw_537 gw_538 gw_539 ⟨Nat.le_of_ble_eq_true rfl, Nat.le_of_ble_eq_true rfl⟩ (Nat.le_of_ble_eq_true rfl) (fun rv45 w45 _ => ?_)
        refine ee_kJ (fun v45 => ?_)
        refine ee_l2i dBoxReader_beginsWithSignature_48 ?_
        refine ee_ldc (v := (218793738 : Int32)) dBoxReader_beginsWithSignature_49 gw_550 ?_
        refine ee_icmp_ne (tgt := 58) dBoxReader_beginsWithSignature_51 (by decide) (fun h51 => ?_) (fun h51 => ?_)
        · refine ee_iconst (v := (0 : Int32)) dBoxReader_beginsWithSignature_58 (by decide) ?_
          exact ee_zret rfl dBoxReader_beginsWithSignature_59
        · refine ee_iconst (v := (1 : Int32)) dBoxReader_beginsWithSignature_54 (by decide) ?_
          refine ee_goto (tgt := 59) dBoxReader_beginsWithSignature_55 (by decide) ?_
          exact ee_zret rfl dBoxReader_beginsWithSignature_59
