def fSettings_hasSegmentNotForAll_2 : Nat → Nat → Int32 → PW → PX
  | 0, _, _, _ => none
  | n9 + 1, l0, l1, w => if (125 : Int32) ≤ l1 then (p_retZ (0 : Int32) w) else ((p_getR w l0 7 3).bind fun v9 => (p_ald w v9 2 l1).bind fun v13 => if ¬ v13 = 0 then (p_retZ (1 : Int32) w) else ((p_getR w l0 7 4).bind fun v18 => (p_ald w v18 2 l1).bind fun v22 => if v22 = 0 then (p_let (l1 + (1 : Int32)) fun (l1_28 : Int32) => (fSettings_hasSegmentNotForAll_2 n9) l0 l1_28 w) else (p_retZ (1 : Int32) w)))
set_option maxRecDepth 20000 in
set_option maxHeartbeats 2000000 in
theorem t_fSettings_hasSegmentNotForAll_2 {Γ : PG} : ∀ (n9 : Nat) (l0 : Nat) (l1 : Int32) (w : PW), EE Γ MSettings_hasSegmentNotForAll 2 [(0, .ref l0), (1, .int l1)] [] w (fSettings_hasSegmentNotForAll_2 n9 l0 l1 w) := by
  intro n9
  induction n9 with
  | zero => intro l0 l1 w; exact ee_none
  | succ n9 ih =>
    intro l0 l1 w
    unfold fSettings_hasSegmentNotForAll_2
    refine ee_iload_n 1 dSettings_hasSegmentNotForAll_2 rfl ?_
    refine ee_bipush (v := (125 : Int32)) dSettings_hasSegmentNotForAll_3 (by decide) ?_
    refine ee_icmp_ge (tgt := 34) dSettings_hasSegmentNotForAll_5 (by decide) (fun h5 => ?_) (fun h5 => ?_)
    · refine ee_iconst (v := (0 : Int32)) dSettings_hasSegmentNotForAll_34 (by decide) ?_
      exact ee_zret rfl dSettings_hasSegmentNotForAll_35
    · refine ee_aload_n 0 dSettings_hasSegmentNotForAll_8 rfl ?_
      refine ee_getR dSettings_hasSegmentNotForAll_9 lfSettings_21 (fun v9 _ => ?_)
      refine ee_iload_n 1 dSettings_hasSegmentNotForAll_12 rfl ?_
      refine ee_zald (t := 2) dSettings_hasSegmentNotForAll_13 rfl (fun v13 _ => ?_)
      refine ee_if_ne (tgt := 26) dSettings_hasSegmentNotForAll_14 (by decide) (fun h14 => ?_) (fun h14 => ?_)
      · refine ee_iconst (v := (1 : Int32)) dSettings_hasSegmentNotForAll_26 (by decide) ?_
        exact ee_zret rfl dSettings_hasSegmentNotForAll_27
      · refine ee_aload_n 0 dSettings_hasSegmentNotForAll_17 rfl ?_
        refine ee_getR dSettings_hasSegmentNotForAll_18 lfSettings_25 (fun v18 _ => ?_)
        refine ee_iload_n 1 dSettings_hasSegmentNotForAll_21 rfl ?_
        refine ee_zald (t := 2) dSettings_hasSegmentNotForAll_22 rfl (fun v22 _ => ?_)
        refine ee_if_eq (tgt := 28) dSettings_hasSegmentNotForAll_23 (by decide) (fun h23 => ?_) (fun h23 => ?_)
        · refine ee_iinc 1 dSettings_hasSegmentNotForAll_28 rfl (e := (1 : Int32)) (by decide) (Nat.le_of_ble_eq_true rfl) (fun l1_28 _ => ?_)
          refine ee_lv (lv2 := [(1, .int l1_28), (0, .ref l0)]) rfl ?_
          refine ee_goto (tgt := 2) dSettings_hasSegmentNotForAll_31 (by decide) ?_
          refine ee_pick [1, 0] rfl ?_
          exact ih _ _ w
        · refine ee_iconst (v := (1 : Int32)) dSettings_hasSegmentNotForAll_26 (by decide) ?_
          exact ee_zret rfl dSettings_hasSegmentNotForAll_27
def fSettings_hasSegmentNotForAll (l0 : Nat) (w : PW) : PX := fSettings_hasSegmentNotForAll_2 FUEL l0 (1 : Int32) w
set_option maxRecDepth 20000 in
set_option maxHeartbeats 2000000 in
theorem t_fSettings_hasSegmentNotForAll {Γ : PG} : ∀ (l0 : Nat) (w : PW), EE Γ MSettings_hasSegmentNotForAll 0 (lv_args 0 [.ref l0]) [] w (fSettings_hasSegmentNotForAll l0 w) := by
  intro l0 w
  unfold fSettings_hasSegmentNotForAll
  show EE Γ MSettings_hasSegmentNotForAll 0 [(0, .ref l0)] [] w _
  refine ee_iconst (v := (1 : Int32)) dSettings_hasSegmentNotForAll_0 (by decide) ?_
  refine ee_istore_n (lv2 := [(1, .int (1 : Int32)), (0, .ref l0)]) dSettings_hasSegmentNotForAll_1 (Nat.le_of_ble_eq_true rfl) rfl ?_
  refine ee_pick [1, 0] rfl ?_
  exact t_fSettings_hasSegmentNotForAll_2 FUEL _ _ w
def fSettings_hasStyleAndStepForAll (l0 : Nat) (w : PW) : PX := (p_getR w l0 7 3).bind fun v1 => (p_ald w v1 2 (0 : Int32)).bind fun v5 => if v5 = 0 then (p_retZ (0 : Int32) w) else ((p_getR w l0 7 4).bind fun v10 => (p_ald w v10 2 (0 : Int32)).bind fun v14 => if v14 = 0 then (p_retZ (0 : Int32) w) else (p_retZ (1 : Int32) w))
set_option maxRecDepth 20000 in
set_option maxHeartbeats 2000000 in
theorem t_fSettings_hasStyleAndStepForAll {Γ : PG} : ∀ (l0 : Nat) (w : PW), EE Γ MSettings_hasStyleAndStepForAll 0 (lv_args 0 [.ref l0]) [] w (fSettings_hasStyleAndStepForAll l0 w) := by
  intro l0 w
  unfold fSettings_hasStyleAndStepForAll
  show EE Γ MSettings_hasStyleAndStepForAll 0 [(0, .ref l0)] [] w _
  refine ee_aload_n 0 dSettings_hasStyleAndStepForAll_0 rfl ?_
  refine ee_getR dSettings_hasStyleAndStepForAll_1 lfSettings_21 (fun v1 _ => ?_)
  refine ee_iconst (v := (0 : Int32)) dSettings_hasStyleAndStepForAll_4 (by decide) ?_
  refine ee_zald (t := 2) dSettings_hasStyleAndStepForAll_5 rfl (fun v5 _ => ?_)
  refine ee_if_eq (tgt := 22) dSettings_hasStyleAndStepForAll_6 (by decide) (fun h6 => ?_) (fun h6 => ?_)
  · refine ee_iconst (v := (0 : Int32)) dSettings_hasStyleAndStepForAll_22 (by decide) ?_
    exact ee_zret rfl dSettings_hasStyleAndStepForAll_23
  · refine ee_aload_n 0 dSettings_hasStyleAndStepForAll_9 rfl ?_
    refine ee_getR dSettings_hasStyleAndStepForAll_10 lfSettings_25 (fun v10 _ => ?_)
    refine ee_iconst (v := (0 : Int32)) dSettings_hasStyleAndStepForAll_13 (by decide) ?_
    refine ee_zald (t := 2) dSettings_hasStyleAndStepForAll_14 rfl (fun v14 _ => ?_)
    refine ee_if_eq (tgt := 22) dSettings_hasStyleAndStepForAll_15 (by decide) (fun h15 => ?_) (fun h15 => ?_)
    · refine ee_iconst (v := (0 : Int32)) dSettings_hasStyleAndStepForAll_22 (by decide) ?_
      exact ee_zret rfl dSettings_hasStyleAndStepForAll_23
    · refine ee_iconst (v := (1 : Int32)) dSettings_hasStyleAndStepForAll_18 (by decide) ?_
      refine ee_goto (tgt := 23) dSettings_hasStyleAndStepForAll_19 (by decide) ?_
      exact ee_zret rfl dSettings_hasStyleAndStepForAll_23
def fSettings_hasStyle (l0 : Nat) (l1 : Int32) (l2 : Int32) (w : PW) : PX := (p_getR w l0 7 3).bind fun v1 => p_call (fSettings_slotOf l1 l2 w) <| p_kI fun v6 w6 => (p_ald w6 v1 2 v6).bind fun v9 => p_retZ v9 w6
set_option maxRecDepth 20000 in
set_option maxHeartbeats 2000000 in
theorem t_fSettings_hasStyle {Γ : PG} : ∀ (l0 : Nat) (l1 : Int32) (l2 : Int32) (w : PW), EE Γ MSettings_hasStyle 0 (lv_args 0 [.ref l0, .int l1, .int l2]) [] w (fSettings_hasStyle l0 l1 l2 w) := by
  intro l0 l1 l2 w
  unfold fSettings_hasStyle
  show EE Γ MSettings_hasStyle 0 [(0, .ref l0), (1, .int l1), (2, .int l2)] [] w _
  refine ee_aload_n 0 dSettings_hasStyle_0 rfl ?_
  refine ee_getR dSettings_hasStyle_1 lfSettings_21 (fun v1 _ => ?_)
  refine ee_iload_n 1 dSettings_hasStyle_4 rfl ?_
  refine ee_iload_n 2 dSettings_hasStyle_5 rfl ?_
  refine ee_callS (as := [.int l1, .int l2]) (st := [.ref v1]) dSettings_hasStyle_6 (t_fSettings_slotOf l1 l2 w) my_fSettings_slotOf.1 (Nat.le_of_ble_eq_true rfl) my_fSettings_slotOf.2 rfl gw_425 gw_426 ⟨Nat.le_of_ble_eq_true rfl, Nat.le_of_ble_eq_true rfl⟩ (Nat.le_of_ble_eq_true rfl) (fun rv6 w6 _ => ?_)
  refine ee_kI (fun v6 => ?_)
  refine ee_zald (t := 2) dSettings_hasStyle_9 rfl (fun v9 _ => ?_)
  exact ee_zret rfl dSettings_hasStyle_10
def fSettings_hasStep (l0 : Nat) (l1 : Int32) (l2 : Int32) (w : PW) : PX := (p_getR w l0 7 4).bind fun v1 => p_call (fSettings_slotOf l1 l2 w) <| p_kI fun v6 w6 => (p_ald w6 v1 2 v6).bind fun v9 => p_retZ v9 w6
set_option maxRecDepth 20000 in
set_option maxHeartbeats 2000000 in
theorem t_fSettings_hasStep {Γ : PG} : ∀ (l0 : Nat) (l1 : Int32) (l2 : Int32) (w : PW), EE Γ MSettings_hasStep 0 (lv_args 0 [.ref l0, .int l1, .int l2]) [] w (fSettings_hasStep l0 l1 l2 w) := by
  intro l0 l1 l2 w
  unfold fSettings_hasStep
  show EE Γ MSettings_hasStep 0 [(0, .ref l0), (1, .int l1), (2, .int l2)] [] w _
  refine ee_aload_n 0 dSettings_hasStep_0 rfl ?_
  refine ee_getR dSettings_hasStep_1 lfSettings_25 (fun v1 _ => ?_)
  refine ee_iload_n 1 dSettings_hasStep_4 rfl ?_
  refine ee_iload_n 2 dSettings_hasStep_5 rfl ?_
  refine ee_callS (as := [.int l1, .int l2]) (st := [.ref v1]) dSettings_hasStep_6 (t_fSettings_slotOf l1 l2 w) my_fSettings_slotOf.1 (Nat.le_of_ble_eq_true rfl) my_fSettings_slotOf.2 rfl gw_425 gw_426 ⟨Nat.le_of_ble_eq_true rfl, Nat.le_of_ble_eq_true rfl⟩ (Nat.le_of_ble_eq_true rfl) (fun rv6 w6 _ => ?_)
  refine ee_kI (fun v6 => ?_)
  refine ee_zald (t := 2) dSettings_hasStep_9 rfl (fun v9 _ => ?_)
  exact ee_zret rfl dSettings_hasStep_10
def fSettings_slotInForce_17 (l2 : Int32) (l3 : Int32) (s0 : Nat) (w : PW) : PX := p_call (fSettings_slotOf l2 l3 w) <| p_kI fun v23 w23 => (p_ald w23 s0 2 v23).bind fun v26 => if v26 = 0 then (p_call (fSettings_slotOf l2 (-1 : Int32) w23) <| p_kI fun v40 w40 => (p_ald w40 s0 2 v40).bind fun v43 => if v43 = 0 then (p_call (fSettings_slotOf (-1 : Int32) l3 w40) <| p_kI fun v57 w57 => (p_ald w57 s0 2 v57).bind fun v60 => if v60 = 0 then (some (.inl (some (.int (0 : Int32))), w57)) else (p_call (fSettings_slotOf (-1 : Int32) l3 w57) <| p_kI fun v66 w66 => some (.inl (some (.int v66)), w66))) else (p_call (fSettings_slotOf l2 (-1 : Int32) w40) <| p_kI fun v49 w49 => some (.inl (some (.int v49)), w49))) else (p_call (fSettings_slotOf l2 l3 w23) <| p_kI fun v32 w32 => some (.inl (some (.int v32)), w32))
set_option maxRecDepth 20000 in
set_option maxHeartbeats 2000000 in
theorem t_fSettings_slotInForce_17 {Γ : PG} : ∀ (l2 : Int32) (l3 : Int32) (s0 : Nat) (w : PW), EE Γ MSettings_slotInForce 17 [(2, .int l2), (3, .int l3)] [.ref s0] w (fSettings_slotInForce_17 l2 l3 s0 w) := by
  intro l2 l3 s0 w
  unfold fSettings_slotInForce_17
  refine ee_astore (lv2 := [(4, .ref s0), (2, .int l2), (3, .int l3)]) dSettings_slotInForce_17 (Nat.le_of_ble_eq_true rfl) rfl ?_
  refine ee_aload 0 dSettings_slotInForce_19 rfl ?_
  refine ee_iload_n 1 dSettings_slotInForce_21 rfl ?_
  refine ee_iload_n 2 dSettings_slotInForce_22 rfl ?_
  refine ee_callS (as := [.int l2, .int l3]) (st := [.ref s0]) dSettings_slotInForce_23 (t_fSettings_slotOf l2 l3 w) my_fSettings_slotOf.1 (Nat.le_of_ble_eq_true rfl) my_fSettings_slotOf.2 rfl gw_425 gw_426 ⟨Nat.le_of_ble_eq_true rfl, Nat.le_of_ble_eq_true rfl⟩ (Nat.le_of_ble_eq_true rfl) (fun rv23 w23 _ => ?_)
  refine ee_kI (fun v23 => ?_)
  refine ee_zald (t := 2) dSettings_slotInForce_26 rfl (fun v26 _ => ?_)
  refine ee_if_eq (tgt := 36) dSettings_slotInForce_27 (by decide) (fun h27 => ?_) (fun h27 => ?_)
  · refine ee_aload 0 dSettings_slotInForce_36 rfl ?_
    refine ee_iload_n 1 dSettings_slotInForce_38 rfl ?_
    refine ee_iconst (v := (-1 : Int32)) dSettings_slotInForce_39 (by decide) ?_
    refine ee_callS (as := [.int l2, .int (-1 : Int32)]) (st := [.ref s0]) dSettings_slotInForce_40 (t_fSettings_slotOf l2 (-1 : Int32) w23) my_fSettings_slotOf.1 (Nat.le_of_ble_eq_true rfl) my_fSettings_slotOf.2 rfl gw_425 gw_426 ⟨Nat.le_of_ble_eq_true rfl, Nat.le_of_ble_eq_true rfl⟩ (Nat.le_of_ble_eq_true rfl) (fun rv40 w40 _ => ?_)
    refine ee_kI (fun v40 => ?_)
    refine ee_zald (t := 2) dSettings_slotInForce_43 rfl (fun v43 _ => ?_)
    refine ee_if_eq (tgt := 53) dSettings_slotInForce_44 (by decide) (fun h44 => ?_) (fun h44 => ?_)
    · refine ee_aload 0 dSettings_slotInForce_53 rfl ?_
      refine ee_iconst (v := (-1 : Int32)) dSettings_slotInForce_55 (by decide) ?_
      refine ee_iload_n 2 dSettings_slotInForce_56 rfl ?_
      refine ee_callS (as := [.int (-1 : Int32), .int l3]) (st := [.ref s0]) dSettings_slotInForce_57 (t_fSettings_slotOf (-1 : Int32) l3 w40) my_fSettings_slotOf.1 (Nat.le_of_ble_eq_true rfl) my_fSettings_slotOf.2 rfl gw_425 gw_426 ⟨Nat.le_of_ble_eq_true rfl, Nat.le_of_ble_eq_true rfl⟩ (Nat.le_of_ble_eq_true rfl) (fun rv57 w57 _ => ?_)
      refine ee_kI (fun v57 => ?_)
      refine ee_zald (t := 2) dSettings_slotInForce_60 rfl (fun v60 _ => ?_)
      refine ee_if_eq (tgt := 72) dSettings_slotInForce_61 (by decide) (fun h61 => ?_) (fun h61 => ?_)
      · refine ee_iconst (v := (0 : Int32)) dSettings_slotInForce_72 (by decide) ?_
        exact ee_iret rfl dSettings_slotInForce_73
      · refine ee_iconst (v := (-1 : Int32)) dSettings_slotInForce_64 (by decide) ?_
        refine ee_iload_n 2 dSettings_slotInForce_65 rfl ?_
        refine ee_callS (as := [.int (-1 : Int32), .int l3]) (st := []) dSettings_slotInForce_66 (t_fSettings_slotOf (-1 : Int32) l3 w57) my_fSettings_slotOf.1 (Nat.le_of_ble_eq_true rfl) my_fSettings_slotOf.2 rfl gw_425 gw_426 ⟨Nat.le_of_ble_eq_true rfl, Nat.le_of_ble_eq_true rfl⟩ (Nat.le_of_ble_eq_true rfl) (fun rv66 w66 _ => ?_)
        refine ee_kI (fun v66 => ?_)
        refine ee_goto (tgt := 73) dSettings_slotInForce_69 (by decide) ?_
        exact ee_iret rfl dSettings_slotInForce_73
    · refine ee_iload_n 1 dSettings_slotInForce_47 rfl ?_
      refine ee_iconst (v := (-1 : Int32)) dSettings_slotInForce_48 (by decide) ?_
      refine ee_callS (as := [.int l2, .int (-1 : Int32)]) (st := []) dSettings_slotInForce_49 (t_fSettings_slotOf l2 (-1 : Int32) w40) my_fSettings_slotOf.1 (Nat.le_of_ble_eq_true rfl) my_fSettings_slotOf.2 rfl gw_425 gw_426 ⟨Nat.le_of_ble_eq_true rfl, Nat.le_of_ble_eq_true rfl⟩ (Nat.le_of_ble_eq_true rfl) (fun rv49 w49 _ => ?_)
      refine ee_kI (fun v49 => ?_)
      exact ee_iret rfl dSettings_slotInForce_52
  · refine ee_iload_n 1 dSettings_slotInForce_30 rfl ?_
    refine ee_iload_n 2 dSettings_slotInForce_31 rfl ?_
    refine ee_callS (as := [.int l2, .int l3]) (st := []) dSettings_slotInForce_32 (t_fSettings_slotOf l2 l3 w23) my_fSettings_slotOf.1 (Nat.le_of_ble_eq_true rfl) my_fSettings_slotOf.2 rfl gw_425 gw_426 ⟨Nat.le_of_ble_eq_true rfl, Nat.le_of_ble_eq_true rfl⟩ (Nat.le_of_ble_eq_true rfl) (fun rv32 w32 _ => ?_)
    refine ee_kI (fun v32 => ?_)
    exact ee_iret rfl dSettings_slotInForce_35
def fSettings_slotInForce (l0 : Nat) (l1 : Int32) (l2 : Int32) (l3 : Int32) (w : PW) : PX := if (9 : Int32) ≤ l1 then ((p_getR w l0 7 4).bind fun v14 => fSettings_slotInForce_17 l2 l3 v14 w) else ((p_getR w l0 7 3).bind fun v7 => fSettings_slotInForce_17 l2 l3 v7 w)
set_option maxRecDepth 20000 in
set_option maxHeartbeats 2000000 in
theorem t_fSettings_slotInForce {Γ : PG} : ∀ (l0 : Nat) (l1 : Int32) (l2 : Int32) (l3 : Int32) (w : PW), EE Γ MSettings_slotInForce 0 (lv_args 0 [.ref l0, .int l1, .int l2, .int l3]) [] w (fSettings_slotInForce l0 l1 l2 l3 w) := by
  intro l0 l1 l2 l3 w
  unfold fSettings_slotInForce
  show EE Γ MSettings_slotInForce 0 [(0, .ref l0), (1, .int l1), (2, .int l2), (3, .int l3)] [] w _
  refine ee_iload_n 1 dSettings_slotInForce_0 rfl ?_
  refine ee_bipush (v := (9 : Int32)) dSettings_slotInForce_1 (by decide) ?_
  refine ee_icmp_ge (tgt := 13) dSettings_slotInForce_3 (by decide) (fun h3 => ?_) (fun h3 => ?_)
  · refine ee_aload_n 0 dSettings_slotInForce_13 rfl ?_
    refine ee_getR dSettings_slotInForce_14 lfSettings_25 (fun v14 _ => ?_)
    refine ee_pick [2, 3] rfl ?_
    exact t_fSettings_slotInForce_17 _ _ _ w
  · refine ee_aload_n 0 dSettings_slotInForce_6 rfl ?_
    refine ee_getR dSettings_slotInForce_7 lfSettings_21 (fun v7 _ => ?_)
    refine ee_goto (tgt := 17) dSettings_slotInForce_10 (by decide) ?_
    refine ee_pick [2, 3] rfl ?_
    exact t_fSettings_slotInForce_17 _ _ _ w
def fSettings_valueOf_62 (l1 : Int32) (s0 : Int32) (s1 : Int32) (s2 : Int32) (s3 : Nat) (s4 : Nat) (w : PW) : PX := (p_obj w s3 7).bind fun _ => p_call (fSettings_slotInForce s3 s2 s1 s0 w) <| p_kI fun v62 w62 => p_call (fSettings_place v62 l1 w62) <| p_kI fun v66 w66 => (p_ald w66 s4 0 v66).bind fun v69 => some (.inl (some (.int v69)), w66)
set_option maxRecDepth 20000 in
set_option maxHeartbeats 2000000 in
theorem t_fSettings_valueOf_62 {Γ : PG} : ∀ (l1 : Int32) (s0 : Int32) (s1 : Int32) (s2 : Int32) (s3 : Nat) (s4 : Nat) (w : PW), EE Γ MSettings_valueOf 62 [(1, .int l1)] [.int s0, .int s1, .int s2, .ref s3, .ref s4] w (fSettings_valueOf_62 l1 s0 s1 s2 s3 s4 w) := by
  intro l1 s0 s1 s2 s3 s4 w
  unfold fSettings_valueOf_62
  refine ee_bind (fun _ ho62 => ?_)
  refine ee_callV (as := [.int s2, .int s1, .int s0]) (st := [.ref s4]) dSettings_valueOf_62 (t_fSettings_slotInForce s3 s2 s1 s0 w) my_fSettings_slotInForce.1 (Nat.le_of_ble_eq_true rfl) my_fSettings_slotInForce.2 rfl cf_7.1 rfl (p_obj_eq.mp ho62) gw_421 gw_422 gw_423 ⟨Nat.le_of_ble_eq_true rfl, Nat.le_of_ble_eq_true rfl⟩ (Nat.le_of_ble_eq_true rfl) (fun rv62 w62 _ => ?_)
  refine ee_kI (fun v62 => ?_)
  refine ee_iload_n 0 dSettings_valueOf_65 rfl ?_
  refine ee_callS (as := [.int v62, .int l1]) (st := [.ref s4]) dSettings_valueOf_66 (t_fSettings_place v62 l1 w62) my_fSettings_place.1 (Nat.le_of_ble_eq_true rfl) my_fSettings_place.2 rfl gw_319 gw_320 ⟨Nat.le_of_ble_eq_true rfl, Nat.le_of_ble_eq_true rfl⟩ (Nat.le_of_ble_eq_true rfl) (fun rv66 w66 _ => ?_)
  refine ee_kI (fun v66 => ?_)
  refine ee_iald (t := 0) dSettings_valueOf_69 rfl (fun v69 _ => ?_)
  exact ee_iret rfl dSettings_valueOf_70
def fSettings_valueOf_43 (l0 : Nat) (l1 : Int32) (l2 : Int32) (l3 : Int32) (s0 : Int32) (w : PW) : PX := (p_getR w l0 7 2).bind fun v46 => if s0 = 0 then (fSettings_valueOf_62 l1 l3 l2 l1 l0 v46 w) else (fSettings_valueOf_62 l1 (-1 : Int32) l2 l1 l0 v46 w)
set_option maxRecDepth 20000 in
set_option maxHeartbeats 2000000 in
theorem t_fSettings_valueOf_43 {Γ : PG} : ∀ (l0 : Nat) (l1 : Int32) (l2 : Int32) (l3 : Int32) (s0 : Int32) (w : PW), EE Γ MSettings_valueOf 43 [(0, .ref l0), (1, .int l1), (2, .int l2), (3, .int l3)] [.int s0] w (fSettings_valueOf_43 l0 l1 l2 l3 s0 w) := by
  intro l0 l1 l2 l3 s0 w
  unfold fSettings_valueOf_43
  refine ee_istore (lv2 := [(4, .int s0), (0, .ref l0), (1, .int l1), (2, .int l2), (3, .int l3)]) dSettings_valueOf_43 (Nat.le_of_ble_eq_true rfl) rfl ?_
  refine ee_aload_n 1 dSettings_valueOf_45 rfl ?_
  refine ee_getR dSettings_valueOf_46 lfSettings_18 (fun v46 _ => ?_)
  refine ee_aload_n 1 dSettings_valueOf_49 rfl ?_
  refine ee_iload_n 2 dSettings_valueOf_50 rfl ?_
  refine ee_iload_n 3 dSettings_valueOf_51 rfl ?_
  refine ee_iload 0 dSettings_valueOf_52 rfl ?_
  refine ee_if_eq (tgt := 61) dSettings_valueOf_54 (by decide) (fun h54 => ?_) (fun h54 => ?_)
  · refine ee_iload_n 4 dSettings_valueOf_61 rfl ?_
    refine ee_pick [2] rfl ?_
    exact t_fSettings_valueOf_62 _ _ _ _ _ _ w
  · refine ee_iconst (v := (-1 : Int32)) dSettings_valueOf_57 (by decide) ?_
    refine ee_goto (tgt := 62) dSettings_valueOf_58 (by decide) ?_
    refine ee_pick [2] rfl ?_
    exact t_fSettings_valueOf_62 _ _ _ _ _ _ w
def fSettings_valueOf (l0 : Nat) (l1 : Int32) (l2 : Int32) (l3 : Int32) (w : PW) : PX := if (2 : Int32) < l1 then (if ¬ l1 = (3 : Int32) then (if l1 = (4 : Int32) then (fSettings_valueOf_43 l0 l1 l2 l3 (1 : Int32) w) else (if ¬ l1 = (5 : Int32) then (fSettings_valueOf_43 l0 l1 l2 l3 (0 : Int32) w) else (fSettings_valueOf_43 l0 l1 l2 l3 (1 : Int32) w))) else ((p_getR w l0 7 1).bind fun v18 => (p_ald w v18 0 (p_max (0 : Int32) l3)).bind fun v26 => some (.inl (some (.int v26)), w))) else ((p_getR w l0 7 0).bind fun v6 => (p_ald w v6 0 l1).bind fun v10 => some (.inl (some (.int v10)), w))
set_option maxRecDepth 20000 in
set_option maxHeartbeats 2000000 in
theorem t_fSettings_valueOf {Γ : PG} : ∀ (l0 : Nat) (l1 : Int32) (l2 : Int32) (l3 : Int32) (w : PW), EE Γ MSettings_valueOf 0 (lv_args 0 [.ref l0, .int l1, .int l2, .int l3]) [] w (fSettings_valueOf l0 l1 l2 l3 w) := by
  intro l0 l1 l2 l3 w
  unfold fSettings_valueOf
  show EE Γ MSettings_valueOf 0 [(0, .ref l0), (1, .int l1), (2, .int l2), (3, .int l3)] [] w _
  refine ee_iload_n 1 dSettings_valueOf_0 rfl ?_
  refine ee_iconst (v := (2 : Int32)) dSettings_valueOf_1 (by decide) ?_
  refine ee_icmp_gt (tgt := 12) dSettings_valueOf_2 (by decide) (fun h2 => ?_) (fun h2 => ?_)
  · refine ee_iload_n 1 dSettings_valueOf_12 rfl ?_
    refine ee_iconst (v := (3 : Int32)) dSettings_valueOf_13 (by decide) ?_
    refine ee_icmp_ne (tgt := 28) dSettings_valueOf_14 (by decide) (fun h14 => ?_) (fun h14 => ?_)
    · refine ee_iload_n 1 dSettings_valueOf_28 rfl ?_
      refine ee_iconst (v := (4 : Int32)) dSettings_valueOf_29 (by decide) ?_
      refine ee_icmp_eq (tgt := 38) dSettings_valueOf_30 (by decide) (fun h30 => ?_) (fun h30 => ?_)
      · refine ee_iconst (v := (1 : Int32)) dSettings_valueOf_38 (by decide) ?_
        refine ee_goto (tgt := 43) dSettings_valueOf_39 (by decide) ?_
        exact t_fSettings_valueOf_43 _ _ _ _ _ w
      · refine ee_iload_n 1 dSettings_valueOf_33 rfl ?_
        refine ee_iconst (v := (5 : Int32)) dSettings_valueOf_34 (by decide) ?_
        refine ee_icmp_ne (tgt := 42) dSettings_valueOf_35 (by decide) (fun h35 => ?_) (fun h35 => ?_)
        · refine ee_iconst (v := (0 : Int32)) dSettings_valueOf_42 (by decide) ?_
          exact t_fSettings_valueOf_43 _ _ _ _ _ w
        · refine ee_iconst (v := (1 : Int32)) dSettings_valueOf_38 (by decide) ?_
          refine ee_goto (tgt := 43) dSettings_valueOf_39 (by decide) ?_
          exact t_fSettings_valueOf_43 _ _ _ _ _ w
    · refine ee_aload_n 0 dSettings_valueOf_17 rfl ?_
      refine ee_getR dSettings_valueOf_18 lfSettings_15 (fun v18 _ => ?_)
      refine ee_iconst (v := (0 : Int32)) dSettings_valueOf_21 (by decide) ?_
      refine ee_iload_n 3 dSettings_valueOf_22 rfl ?_
      refine ee_mmax dSettings_valueOf_23 gw_420 gw_mmaxs gw_mi gw_mmaxc ⟨Nat.le_of_ble_eq_true rfl, Nat.le_of_ble_eq_true rfl⟩ ?_
      refine ee_iald (t := 0) dSettings_valueOf_26 rfl (fun v26 _ => ?_)
      exact ee_iret rfl dSettings_valueOf_27
  · refine ee_aload_n 0 dSettings_valueOf_5 rfl ?_
    refine ee_getR dSettings_valueOf_6 lfSettings_11 (fun v6 _ => ?_)
    refine ee_iload_n 1 dSettings_valueOf_9 rfl ?_
    refine ee_iald (t := 0) dSettings_valueOf_10 rfl (fun v10 _ => ?_)
    exact ee_iret rfl dSettings_valueOf_11
def fSettings_changeDepth_17 (k_2 : Nat → Int32 → Int32 → Int32 → PW → PX) (l0 : Nat) (l1 : Int32) (l2 : Int32) (l3 : Int32) (w : PW) : PX := (p_getR w l0 7 1).bind fun v18 => (p_ast w v18 0 l3 l2).bind fun w23 => p_let (l3 + (1 : Int32)) fun (l3_24 : Int32) => k_2 l0 l1 l2 l3_24 w23
set_option maxRecDepth 20000 in
set_option maxHeartbeats 2000000 in
theorem t_fSettings_changeDepth_17 {Γ : PG} {k_2 : Nat → Int32 → Int32 → Int32 → PW → PX} (hk_2 : ∀ (l0 : Nat) (l1 : Int32) (l2 : Int32) (l3 : Int32) (w : PW), EE Γ MSettings_changeDepth 2 [(0, .ref l0), (1, .int l1), (2, .int l2), (3, .int l3)] [] w (k_2 l0 l1 l2 l3 w)) : ∀ (l0 : Nat) (l1 : Int32) (l2 : Int32) (l3 : Int32) (w : PW), EE Γ MSettings_changeDepth 17 [(0, .ref l0), (1, .int l1), (2, .int l2), (3, .int l3)] [] w (fSettings_changeDepth_17 k_2 l0 l1 l2 l3 w) := by
  intro l0 l1 l2 l3 w
  unfold fSettings_changeDepth_17
  refine ee_aload_n 0 dSettings_changeDepth_17 rfl ?_
  refine ee_getR dSettings_changeDepth_18 lfSettings_15 (fun v18 _ => ?_)
  refine ee_iload_n 3 dSettings_changeDepth_21 rfl ?_
  refine ee_iload_n 2 dSettings_changeDepth_22 rfl ?_
  refine ee_iast (t := 0) dSettings_changeDepth_23 rfl (fun w23 _ => ?_)
  refine ee_iinc 3 dSettings_changeDepth_24 rfl (e := (1 : Int32)) (by decide) (Nat.le_of_ble_eq_true rfl) (fun l3_24 _ => ?_)
  refine ee_lv (lv2 := [(3, .int l3_24), (0, .ref l0), (1, .int l1), (2, .int l2)]) rfl ?_
  refine ee_goto (tgt := 2) dSettings_changeDepth_27 (by decide) ?_
  refine ee_pick [1, 2, 3, 0] rfl ?_
  exact hk_2 _ _ _ _ w23
def fSettings_changeDepth_2 : Nat → Nat → Int32 → Int32 → Int32 → PW → PX
  | 0, _, _, _, _, _ => none
  | n9 + 1, l0, l1, l2, l3, w => if (4 : Int32) ≤ l3 then (some (.inl none, w)) else (if l1 = (-1 : Int32) then (fSettings_changeDepth_17 (fSettings_changeDepth_2 n9) l0 l1 l2 l3 w) else (if ¬ l1 = l3 then (p_let (l3 + (1 : Int32)) fun (l3_24 : Int32) => (fSettings_changeDepth_2 n9) l0 l1 l2 l3_24 w) else (fSettings_changeDepth_17 (fSettings_changeDepth_2 n9) l0 l1 l2 l3 w)))
set_option maxRecDepth 20000 in
set_option maxHeartbeats 2000000 in
theorem t_fSettings_changeDepth_2 {Γ : PG} : ∀ (n9 : Nat) (l0 : Nat) (l1 : Int32) (l2 : Int32) (l3 : Int32) (w : PW), EE Γ MSettings_changeDepth 2 [(0, .ref l0), (1, .int l1), (2, .int l2), (3, .int l3)] [] w (fSettings_changeDepth_2 n9 l0 l1 l2 l3 w) := by
  intro n9
  induction n9 with
  | zero => intro l0 l1 l2 l3 w; exact ee_none
  | succ n9 ih =>
    intro l0 l1 l2 l3 w
    unfold fSettings_changeDepth_2
    refine ee_iload_n 3 dSettings_changeDepth_2 rfl ?_
    refine ee_iconst (v := (4 : Int32)) dSettings_changeDepth_3 (by decide) ?_
    refine ee_icmp_ge (tgt := 30) dSettings_changeDepth_4 (by decide) (fun h4 => ?_) (fun h4 => ?_)
    · exact ee_vret rfl dSettings_changeDepth_30
    · refine ee_iload_n 1 dSettings_changeDepth_7 rfl ?_
      refine ee_iconst (v := (-1 : Int32)) dSettings_changeDepth_8 (by decide) ?_
      refine ee_icmp_eq (tgt := 17) dSettings_changeDepth_9 (by decide) (fun h9 => ?_) (fun h9 => ?_)
      · exact t_fSettings_changeDepth_17 ih _ _ _ _ w
      · refine ee_iload_n 1 dSettings_changeDepth_12 rfl ?_
        refine ee_iload_n 3 dSettings_changeDepth_13 rfl ?_
        refine ee_icmp_ne (tgt := 24) dSettings_changeDepth_14 (by decide) (fun h14 => ?_) (fun h14 => ?_)
        · refine ee_iinc 3 dSettings_changeDepth_24 rfl (e := (1 : Int32)) (by decide) (Nat.le_of_ble_eq_true rfl) (fun l3_24 _ => ?_)
          refine ee_lv (lv2 := [(3, .int l3_24), (0, .ref l0), (1, .int l1), (2, .int l2)]) rfl ?_
          refine ee_goto (tgt := 2) dSettings_changeDepth_27 (by decide) ?_
          refine ee_pick [1, 2, 3, 0] rfl ?_
          exact ih _ _ _ _ w
        · exact t_fSettings_changeDepth_17 ih _ _ _ _ w
def fSettings_changeDepth (l0 : Nat) (l1 : Int32) (l2 : Int32) (w : PW) : PX := fSettings_changeDepth_2 FUEL l0 l1 l2 (0 : Int32) w
set_option maxRecDepth 20000 in
set_option maxHeartbeats 2000000 in
theorem t_fSettings_changeDepth {Γ : PG} : ∀ (l0 : Nat) (l1 : Int32) (l2 : Int32) (w : PW), EE Γ MSettings_changeDepth 0 (lv_args 0 [.ref l0, .int l1, .int l2]) [] w (fSettings_changeDepth l0 l1 l2 w) := by
  intro l0 l1 l2 w
  unfold fSettings_changeDepth
  show EE Γ MSettings_changeDepth 0 [(0, .ref l0), (1, .int l1), (2, .int l2)] [] w _
  refine ee_iconst (v := (0 : Int32)) dSettings_changeDepth_0 (by decide) ?_
  refine ee_istore_n (lv2 := [(3, .int (0 : Int32)), (0, .ref l0), (1, .int l1), (2, .int l2)]) dSettings_changeDepth_1 (Nat.le_of_ble_eq_true rfl) rfl ?_
  refine ee_pick [1, 2, 3, 0] rfl ?_
  exact t_fSettings_changeDepth_2 FUEL _ _ _ _ w
def fSettings_makeSegment_57 : Nat → Nat → Int32 → Int32 → Int32 → Int32 → PW → PX
  | 0, _, _, _, _, _, _ => none
  | n9 + 1, l0, l4, l5, l7, l8, w => if l7 < l8 then (some (.inl none, w)) else ((p_getR w l0 7 2).bind fun v70 => p_call (fSettings_place l5 l8 w) <| p_kI fun v77 w77 => (p_ald w77 v70 0 v77).bind fun v80 => (p_obj w77 l0 7).bind fun _ => p_call (fSettings_hold l0 l4 l8 v80 w77) <| p_kV fun w81 => p_let (l8 + (1 : Int32)) fun (l8_84 : Int32) => (fSettings_makeSegment_57 n9) l0 l4 l5 l7 l8_84 w81)
set_option maxRecDepth 20000 in
set_option maxHeartbeats 2000000 in
theorem t_fSettings_makeSegment_57 {Γ : PG} : ∀ (n9 : Nat) (l0 : Nat) (l4 : Int32) (l5 : Int32) (l7 : Int32) (l8 : Int32) (w : PW), EE Γ MSettings_makeSegment 57 [(0, .ref l0), (4, .int l4), (5, .int l5), (7, .int l7), (8, .int l8)] [] w (fSettings_makeSegment_57 n9 l0 l4 l5 l7 l8 w) := by
  intro n9
  induction n9 with
  | zero => intro l0 l4 l5 l7 l8 w; exact ee_none
  | succ n9 ih =>
    intro l0 l4 l5 l7 l8 w
    unfold fSettings_makeSegment_57
    refine ee_iload 4 dSettings_makeSegment_57 rfl ?_
    refine ee_iload 3 dSettings_makeSegment_59 rfl ?_
    refine ee_icmp_gt (tgt := 90) dSettings_makeSegment_61 (by decide) (fun h61 => ?_) (fun h61 => ?_)
    · exact ee_vret rfl dSettings_makeSegment_90
    · refine ee_aload_n 0 dSettings_makeSegment_64 rfl ?_
      refine ee_iload 1 dSettings_makeSegment_65 rfl ?_
      refine ee_iload 4 dSettings_makeSegment_67 rfl ?_
      refine ee_aload_n 0 dSettings_makeSegment_69 rfl ?_
      refine ee_getR dSettings_makeSegment_70 lfSettings_18 (fun v70 _ => ?_)
      refine ee_iload 2 dSettings_makeSegment_73 rfl ?_
      refine ee_iload 4 dSettings_makeSegment_75 rfl ?_
      refine ee_callS (as := [.int l5, .int l8]) (st := [.ref v70, .int l8, .int l4, .ref l0]) dSettings_makeSegment_77 (t_fSettings_place l5 l8 w) my_fSettings_place.1 (Nat.le_of_ble_eq_true rfl) my_fSettings_place.2 rfl gw_319 gw_320 ⟨Nat.le_of_ble_eq_true rfl, Nat.le_of_ble_eq_true rfl⟩ (Nat.le_of_ble_eq_true rfl) (fun rv77 w77 _ => ?_)
      refine ee_kI (fun v77 => ?_)
      refine ee_iald (t := 0) dSettings_makeSegment_80 rfl (fun v80 _ => ?_)
      refine ee_bind (fun _ ho81 => ?_)
      refine ee_callV (as := [.int l4, .int l8, .int v80]) (st := []) dSettings_makeSegment_81 (t_fSettings_hold l0 l4 l8 v80 w77) my_fSettings_hold.1 (Nat.le_of_ble_eq_true rfl) my_fSettings_hold.2 rfl cf_7.1 rfl (p_obj_eq.mp ho81) gw_315 gw_316 gw_317 ⟨Nat.le_of_ble_eq_true rfl, Nat.le_of_ble_eq_true rfl⟩ (Nat.le_of_ble_eq_true rfl) (fun rv81 w81 _ => ?_)
      refine ee_kV ?_
      refine ee_iinc 4 dSettings_makeSegment_84 rfl (e := (1 : Int32)) (by decide) (Nat.le_of_ble_eq_true rfl) (fun l8_84 _ => ?_)
      refine ee_lv (lv2 := [(8, .int l8_84), (0, .ref l0), (4, .int l4), (5, .int l5), (7, .int l7)]) rfl ?_
      refine ee_goto (tgt := 57) dSettings_makeSegment_87 (by decide) ?_
      refine ee_pick [1, 2, 3, 4, 0] rfl ?_
      exact ih _ _ _ _ _ w81
def fSettings_makeSegment_36 (l0 : Nat) (l1 : Int32) (l4 : Int32) (l5 : Int32) (s0 : Int32) (w : PW) : PX := if (9 : Int32) ≤ l1 then (fSettings_makeSegment_57 FUEL l0 l4 l5 (10 : Int32) s0 w) else (fSettings_makeSegment_57 FUEL l0 l4 l5 (8 : Int32) s0 w)
set_option maxRecDepth 20000 in
set_option maxHeartbeats 2000000 in
theorem t_fSettings_makeSegment_36 {Γ : PG} : ∀ (l0 : Nat) (l1 : Int32) (l4 : Int32) (l5 : Int32) (s0 : Int32) (w : PW), EE Γ MSettings_makeSegment 36 [(0, .ref l0), (1, .int l1), (4, .int l4), (5, .int l5)] [.int s0] w (fSettings_makeSegment_36 l0 l1 l4 l5 s0 w) := by
  intro l0 l1 l4 l5 s0 w
  unfold fSettings_makeSegment_36
  refine ee_istore (lv2 := [(6, .int s0), (0, .ref l0), (1, .int l1), (4, .int l4), (5, .int l5)]) dSettings_makeSegment_36 (Nat.le_of_ble_eq_true rfl) rfl ?_
  refine ee_iload_n 2 dSettings_makeSegment_38 rfl ?_
  refine ee_bipush (v := (9 : Int32)) dSettings_makeSegment_39 (by decide) ?_
  refine ee_icmp_ge (tgt := 49) dSettings_makeSegment_41 (by decide) (fun h41 => ?_) (fun h41 => ?_)
  · refine ee_bipush (v := (10 : Int32)) dSettings_makeSegment_49 (by decide) ?_
    refine ee_istore (lv2 := [(7, .int (10 : Int32)), (6, .int s0), (0, .ref l0), (1, .int l1), (4, .int l4), (5, .int l5)]) dSettings_makeSegment_51 (Nat.le_of_ble_eq_true rfl) rfl ?_
    refine ee_iload 1 dSettings_makeSegment_53 rfl ?_
    refine ee_istore (lv2 := [(8, .int s0), (7, .int (10 : Int32)), (6, .int s0), (0, .ref l0), (1, .int l1), (4, .int l4), (5, .int l5)]) dSettings_makeSegment_55 (Nat.le_of_ble_eq_true rfl) rfl ?_
    refine ee_pick [3, 5, 6, 1, 0] rfl ?_
    exact t_fSettings_makeSegment_57 FUEL _ _ _ _ _ w
  · refine ee_bipush (v := (8 : Int32)) dSettings_makeSegment_44 (by decide) ?_
    refine ee_goto (tgt := 51) dSettings_makeSegment_46 (by decide) ?_
    refine ee_istore (lv2 := [(7, .int (8 : Int32)), (6, .int s0), (0, .ref l0), (1, .int l1), (4, .int l4), (5, .int l5)]) dSettings_makeSegment_51 (Nat.le_of_ble_eq_true rfl) rfl ?_
    refine ee_iload 1 dSettings_makeSegment_53 rfl ?_
    refine ee_istore (lv2 := [(8, .int s0), (7, .int (8 : Int32)), (6, .int s0), (0, .ref l0), (1, .int l1), (4, .int l4), (5, .int l5)]) dSettings_makeSegment_55 (Nat.le_of_ble_eq_true rfl) rfl ?_
    refine ee_pick [3, 5, 6, 1, 0] rfl ?_
    exact t_fSettings_makeSegment_57 FUEL _ _ _ _ _ w
def fSettings_makeSegment (l0 : Nat) (l1 : Int32) (l2 : Int32) (l3 : Int32) (w : PW) : PX := p_call (fSettings_slotOf l2 l3 w) <| p_kI fun v2 w2 => (p_obj w2 l0 7).bind fun _ => p_call (fSettings_slotInForce l0 l1 l2 l3 w2) <| p_kI fun v11 w11 => if ¬ v2 = v11 then (if (9 : Int32) ≤ l1 then (fSettings_makeSegment_36 l0 l1 v2 v11 (9 : Int32) w11) else (fSettings_makeSegment_36 l0 l1 v2 v11 (4 : Int32) w11)) else (some (.inl none, w11))
set_option maxRecDepth 20000 in
set_option maxHeartbeats 2000000 in
theorem t_fSettings_makeSegment {Γ : PG} : ∀ (l0 : Nat) (l1 : Int32) (l2 : Int32) (l3 : Int32) (w : PW), EE Γ MSettings_makeSegment 0 (lv_args 0 [.ref l0, .int l1, .int l2, .int l3]) [] w (fSettings_makeSegment l0 l1 l2 l3 w) := by
  intro l0 l1 l2 l3 w
  unfold fSettings_makeSegment
  show EE Γ MSettings_makeSegment 0 [(0, .ref l0), (1, .int l1), (2, .int l2), (3, .int l3)] [] w _
  refine ee_iload_n 2 dSettings_makeSegment_0 rfl ?_
  refine ee_iload_n 3 dSettings_makeSegment_1 rfl ?_
  refine ee_callS (as := [.int l2, .int l3]) (st := []) dSettings_makeSegment_2 (t_fSettings_slotOf l2 l3 w) my_fSettings_slotOf.1 (Nat.le_of_ble_eq_true rfl) my_fSettings_slotOf.2 rfl gw_425 gw_426 ⟨Nat.le_of_ble_eq_true rfl, Nat.le_of_ble_eq_true rfl⟩ (Nat.le_of_ble_eq_true rfl) (fun rv2 w2 _ => ?_)
  refine ee_kI (fun v2 => ?_)
  refine ee_istore (lv2 := [(4, .int v2), (0, .ref l0), (1, .int l1), (2, .int l2), (3, .int l3)]) dSettings_makeSegment_5 (Nat.le_of_ble_eq_true rfl) rfl ?_
  refine ee_aload_n 1 dSettings_makeSegment_7 rfl ?_
  refine ee_iload_n 2 dSettings_makeSegment_8 rfl ?_
  refine ee_iload_n 3 dSettings_makeSegment_9 rfl ?_
  refine ee_iload_n 4 dSettings_makeSegment_10 rfl ?_
  refine ee_bind (fun _ ho11 => ?_)
  refine ee_callV (as := [.int l1, .int l2, .int l3]) (st := []) dSettings_makeSegment_11 (t_fSettings_slotInForce l0 l1 l2 l3 w2) my_fSettings_slotInForce.1 (Nat.le_of_ble_eq_true rfl) my_fSettings_slotInForce.2 rfl cf_7.1 rfl (p_obj_eq.mp ho11) gw_421 gw_422 gw_423 ⟨Nat.le_of_ble_eq_true rfl, Nat.le_of_ble_eq_true rfl⟩ (Nat.le_of_ble_eq_true rfl) (fun rv11 w11 _ => ?_)
  refine ee_kI (fun v11 => ?_)
  refine ee_istore (lv2 := [(5, .int v11), (4, .int v2), (0, .ref l0), (1, .int l1), (2, .int l2), (3, .int l3)]) dSettings_makeSegment_14 (Nat.le_of_ble_eq_true rfl) rfl ?_
  refine ee_iload 1 dSettings_makeSegment_16 rfl ?_
  refine ee_iload 0 dSettings_makeSegment_18 rfl ?_
  refine ee_icmp_ne (tgt := 24) dSettings_makeSegment_20 (by decide) (fun h20 => ?_) (fun h20 => ?_)
  · refine ee_iload_n 3 dSettings_makeSegment_24 rfl ?_
    refine ee_bipush (v := (9 : Int32)) dSettings_makeSegment_25 (by decide) ?_
    refine ee_icmp_ge (tgt := 34) dSettings_makeSegment_27 (by decide) (fun h27 => ?_) (fun h27 => ?_)
    · refine ee_bipush (v := (9 : Int32)) dSettings_makeSegment_34 (by decide) ?_
      refine ee_pick [2, 3, 1, 0] rfl ?_
      exact t_fSettings_makeSegment_36 _ _ _ _ _ w11
    · refine ee_iconst (v := (4 : Int32)) dSettings_makeSegment_30 (by decide) ?_
      refine ee_goto (tgt := 36) dSettings_makeSegment_31 (by decide) ?_
      refine ee_pick [2, 3, 1, 0] rfl ?_
      exact t_fSettings_makeSegment_36 _ _ _ _ _ w11
  · exact ee_vret rfl dSettings_makeSegment_23
def fSettings_change (l0 : Nat) (l1 : Int32) (l2 : Int32) (l3 : Int32) (l4 : Int32) (w : PW) : PX := if (2 : Int32) < l1 then (if ¬ l1 = (3 : Int32) then ((p_obj w l0 7).bind fun _ => p_call (fSettings_makeSegment l0 l1 l2 l3 w) <| p_kV fun w35 => p_call (fSettings_slotOf l2 l3 w35) <| p_kI fun v41 w41 => (p_obj w41 l0 7).bind fun _ => p_call (fSettings_hold l0 v41 l1 l4 w41) <| p_kV fun w47 => some (.inl none, w47)) else ((p_obj w l0 7).bind fun _ => p_call (fSettings_changeDepth l0 l3 l4 w) <| p_kV fun w25 => some (.inl none, w25))) else ((p_getR w l0 7 0).bind fun v6 => (p_ast w v6 0 l1 l4).bind fun w12 => some (.inl none, w12))
set_option maxRecDepth 20000 in
set_option maxHeartbeats 2000000 in
theorem t_fSettings_change {Γ : PG} : ∀ (l0 : Nat) (l1 : Int32) (l2 : Int32) (l3 : Int32) (l4 : Int32) (w : PW), EE Γ MSettings_change 0 (lv_args 0 [.ref l0, .int l1, .int l2, .int l3, .int l4]) [] w (fSettings_change l0 l1 l2 l3 l4 w) := by
  intro l0 l1 l2 l3 l4 w
  unfold fSettings_change
  show EE Γ MSettings_change 0 [(0, .ref l0), (1, .int l1), (2, .int l2), (3, .int l3), (4, .int l4)] [] w _
  refine ee_iload_n 1 dSettings_change_0 rfl ?_
  refine ee_iconst (v := (2 : Int32)) dSettings_change_1 (by decide) ?_
  refine ee_icmp_gt (tgt := 16) dSettings_change_2 (by decide) (fun h2 => ?_) (fun h2 => ?_)
  · refine ee_iload_n 1 dSettings_change_16 rfl ?_
    refine ee_iconst (v := (3 : Int32)) dSettings_change_17 (by decide) ?_
    refine ee_icmp_ne (tgt := 31) dSettings_change_18 (by decide) (fun h18 => ?_) (fun h18 => ?_)
    · refine ee_aload_n 0 dSettings_change_31 rfl ?_
      refine ee_iload_n 1 dSettings_change_32 rfl ?_
      refine ee_iload_n 2 dSettings_change_33 rfl ?_
      refine ee_iload_n 3 dSettings_change_34 rfl ?_
      refine ee_bind (fun _ ho35 => ?_)
      refine ee_callV (as := [.int l1, .int l2, .int l3]) (st := []) dSettings_change_35 (t_fSettings_makeSegment l0 l1 l2 l3 w) my_fSettings_makeSegment.1 (Nat.le_of_ble_eq_true rfl) my_fSettings_makeSegment.2 rfl cf_7.1 rfl (p_obj_eq.mp ho35) gw_874 gw_875 gw_876 ⟨Nat.le_of_ble_eq_true rfl, Nat.le_of_ble_eq_true rfl⟩ (Nat.le_of_ble_eq_true rfl) (fun rv35 w35 _ => ?_)
      refine ee_kV ?_
      refine ee_aload_n 0 dSettings_change_38 rfl ?_
      refine ee_iload_n 2 dSettings_change_39 rfl ?_
      refine ee_iload_n 3 dSettings_change_40 rfl ?_
      refine ee_callS (as := [.int l2, .int l3]) (st := [.ref l0]) dSettings_change_41 (t_fSettings_slotOf l2 l3 w35) my_fSettings_slotOf.1 (Nat.le_of_ble_eq_true rfl) my_fSettings_slotOf.2 rfl gw_425 gw_426 ⟨Nat.le_of_ble_eq_true rfl, Nat.le_of_ble_eq_true rfl⟩ (Nat.le_of_ble_eq_true rfl) (fun rv41 w41 _ => ?_)
      refine ee_kI (fun v41 => ?_)
      refine ee_iload_n 1 dSettings_change_44 rfl ?_
      refine ee_iload 4 dSettings_change_45 rfl ?_
      refine ee_bind (fun _ ho47 => ?_)
      refine ee_callV (as := [.int v41, .int l1, .int l4]) (st := []) dSettings_change_47 (t_fSettings_hold l0 v41 l1 l4 w41) my_fSettings_hold.1 (Nat.le_of_ble_eq_true rfl) my_fSettings_hold.2 rfl cf_7.1 rfl (p_obj_eq.mp ho47) gw_315 gw_316 gw_317 ⟨Nat.le_of_ble_eq_true rfl, Nat.le_of_ble_eq_true rfl⟩ (Nat.le_of_ble_eq_true rfl) (fun rv47 w47 _ => ?_)
      refine ee_kV ?_
      exact ee_vret rfl dSettings_change_50
    · refine ee_aload_n 0 dSettings_change_21 rfl ?_
      refine ee_iload_n 3 dSettings_change_22 rfl ?_
      refine ee_iload 4 dSettings_change_23 rfl ?_
      refine ee_bind (fun _ ho25 => ?_)
      refine ee_callV (as := [.int l3, .int l4]) (st := []) dSettings_change_25 (t_fSettings_changeDepth l0 l3 l4 w) my_fSettings_changeDepth.1 (Nat.le_of_ble_eq_true rfl) my_fSettings_changeDepth.2 rfl cf_7.1 rfl (p_obj_eq.mp ho25) gw_873 gw_635 gw_636 ⟨Nat.le_of_ble_eq_true rfl, Nat.le_of_ble_eq_true rfl⟩ (Nat.le_of_ble_eq_true rfl) (fun rv25 w25 _ => ?_)
      refine ee_kV ?_
      refine ee_goto (tgt := 50) dSettings_change_28 (by decide) ?_
      exact ee_vret rfl dSettings_change_50
  · refine ee_aload_n 0 dSettings_change_5 rfl ?_
    refine ee_getR dSettings_change_6 lfSettings_11 (fun v6 _ => ?_)
    refine ee_iload_n 1 dSettings_change_9 rfl ?_
    refine ee_iload 4 dSettings_change_10 rfl ?_
    refine ee_iast (t := 0) dSettings_change_12 rfl (fun w12 _ => ?_)
    refine ee_goto (tgt := 50) dSettings_change_13 (by decide) ?_
    exact ee_vret rfl dSettings_change_50
def fWriter_init (l0 : Nat) (w : PW) : PX := p_newO w 2 3 [.int 0, .null, .int 0] fun v5 w5 => p_call (fBytes_init v5 (20000 : Int32) w5) <| p_kV fun w12 => (p_put w12 l0 9 0 (.ref v5)).bind fun w15 => some (.inl none, w15)
set_option maxRecDepth 20000 in
set_option maxHeartbeats 2000000 in
theorem t_fWriter_init {Γ : PG} : ∀ (l0 : Nat) (w : PW), EE Γ MWriter_init 0 (lv_args 0 [.ref l0]) [] w (fWriter_init l0 w) := by
  intro l0 w
  unfold fWriter_init
  show EE Γ MWriter_init 0 [(0, .ref l0)] [] w _
  refine ee_aload_n 0 dWriter_init_0 rfl ?_
  refine ee_objInit dWriter_init_1 gw_157 gw_obji gw_objc ⟨Nat.le_of_ble_eq_true rfl, Nat.le_of_ble_eq_true rfl⟩ ?_
  refine ee_aload_n 0 dWriter_init_4 rfl ?_
  refine ee_new dWriter_init_5 lnWriter_9 (fun v5 w5 _ _ => ?_)
  refine ee_dup dWriter_init_8 rfl ?_
  refine ee_sipush (v := (20000 : Int32)) dWriter_init_9 (by decide) ?_
  refine ee_callI (as := [.int (20000 : Int32)]) (st := [.ref v5, .ref l0]) dWriter_init_12 (t_fBytes_init v5 (20000 : Int32) w5) my_fBytes_init.1 (Nat.le_of_ble_eq_true rfl) my_fBytes_init.2 rfl rfl rfl gw_160 gw_161 ⟨Nat.le_of_ble_eq_true rfl, Nat.le_of_ble_eq_true rfl⟩ (Nat.le_of_ble_eq_true rfl) (fun rv12 w12 _ => ?_)
  refine ee_kV ?_
  refine ee_put dWriter_init_15 lpiWriter_14 (ee_nR _ _) (fun w15 _ => ?_)
  exact ee_vret rfl dWriter_init_18
def fWriter_begin (l0 : Nat) (w : PW) : PX := (p_getR w l0 9 0).bind fun v1 => (p_put w v1 2 2 (.int (0 : Int32))).bind fun w5 => some (.inl none, w5)
set_option maxRecDepth 20000 in
set_option maxHeartbeats 2000000 in
theorem t_fWriter_begin {Γ : PG} : ∀ (l0 : Nat) (w : PW), EE Γ MWriter_begin 0 (lv_args 0 [.ref l0]) [] w (fWriter_begin l0 w) := by
  intro l0 w
  unfold fWriter_begin
  show EE Γ MWriter_begin 0 [(0, .ref l0)] [] w _
  refine ee_aload_n 0 dWriter_begin_0 rfl ?_
  refine ee_getR dWriter_begin_1 lfWriter_14 (fun v1 _ => ?_)
  refine ee_iconst (v := (0 : Int32)) dWriter_begin_4 (by decide) ?_
  refine ee_put dWriter_begin_5 lpWriter_20 (ee_nI _) (fun w5 _ => ?_)
  exact ee_vret rfl dWriter_begin_8
def fWriter_closeBox (l0 : Nat) (l1 : Int32) (w : PW) : PX := (p_getR w l0 9 0).bind fun v1 => (p_getR w l0 9 0).bind fun v6 => (p_getI w v6 2 2).bind fun v9 => (p_obj w v1 2).bind fun _ => p_call (fBytes_putNumber4 v1 l1 (v9 - l1) w) <| p_kV fun w14 => some (.inl none, w14)
set_option maxRecDepth 20000 in
set_option maxHeartbeats 2000000 in
theorem t_fWriter_closeBox {Γ : PG} : ∀ (l0 : Nat) (l1 : Int32) (w : PW), EE Γ MWriter_closeBox 0 (lv_args 0 [.ref l0, .int l1]) [] w (fWriter_closeBox l0 l1 w) := by
  intro l0 l1 w
  unfold fWriter_closeBox
  show EE Γ MWriter_closeBox 0 [(0, .ref l0), (1, .int l1)] [] w _
  refine ee_aload_n 0 dWriter_closeBox_0 rfl ?_
  refine ee_getR dWriter_closeBox_1 lfWriter_14 (fun v1 _ => ?_)
  refine ee_iload_n 1 dWriter_closeBox_4 rfl ?_
  refine ee_aload_n 0 dWriter_closeBox_5 rfl ?_
  refine ee_getR dWriter_closeBox_6 lfWriter_14 (fun v6 _ => ?_)
  refine ee_getI dWriter_closeBox_9 lfWriter_20 (fun v9 _ => ?_)
  refine ee_iload_n 1 dWriter_closeBox_12 rfl ?_
  refine ee_isub dWriter_closeBox_13 ?_
  refine ee_bind (fun _ ho14 => ?_)
  refine ee_callV (as := [.int l1, .int (v9 - l1)]) (st := []) dWriter_closeBox_14 (t_fBytes_putNumber4 v1 l1 (v9 - l1) w) my_fBytes_putNumber4.1 (Nat.le_of_ble_eq_true rfl) my_fBytes_putNumber4.2 rfl cf_2.1 rfl (p_obj_eq.mp ho14) gw_401 gw_402 gw_403 ⟨Nat.le_of_ble_eq_true rfl, Nat.le_of_ble_eq_true rfl⟩ (Nat.le_of_ble_eq_true rfl) (fun rv14 w14 _ => ?_)
  refine ee_kV ?_
  exact ee_vret rfl dWriter_closeBox_17
def fBoxReader_init (l0 : Nat) (l1 : Nat) (w : PW) : PX := p_newO w 5 2 [.null, .int 0] fun v5 w5 => p_call (fNumbers_init v5 w5) <| p_kV fun w9 => (p_put w9 l0 1 1 (.ref v5)).bind fun w12 => p_newO w12 5 2 [.null, .int 0] fun v16 w16 => p_call (fNumbers_init v16 w16) <| p_kV fun w20 => (p_put w20 l0 1 2 (.ref v16)).bind fun w23 => (p_put w23 l0 1 3 (.int (-1 : Int32))).bind fun w28 => (p_put w28 l0 1 4 (.int (0 : Int32))).bind fun w33 => (p_put w33 l0 1 5 (.int (0 : Int32))).bind fun w38 => (p_put w38 l0 1 0 (.ref l1)).bind fun w43 => some (.inl none, w43)
set_option maxRecDepth 20000 in
set_option maxHeartbeats 2000000 in
theorem t_fBoxReader_init {Γ : PG} : ∀ (l0 : Nat) (l1 : Nat) (w : PW), EE Γ MBoxReader_init 0 (lv_args 0 [.ref l0, .ref l1]) [] w (fBoxReader_init l0 l1 w) := by
  intro l0 l1 w
  unfold fBoxReader_init
  show EE Γ MBoxReader_init 0 [(0, .ref l0), (1, .ref l1)] [] w _
  refine ee_aload_n 0 dBoxReader_init_0 rfl ?_
  refine ee_objInit dBoxReader_init_1 gw_190 gw_obji gw_objc ⟨Nat.le_of_ble_eq_true rfl, Nat.le_of_ble_eq_true rfl⟩ ?_
  refine ee_aload_n 0 dBoxReader_init_4 rfl ?_
  refine ee_new dBoxReader_init_5 lnBoxReader_9 (fun v5 w5 _ _ => ?_)
  refine ee_dup dBoxReader_init_8 rfl ?_
  refine ee_callIN (as := []) (st := [.ref v5, .ref l0]) dBoxReader_init_9 (t_fNumbers_init v5 w5) my_fNumbers_init.1 (Nat.le_of_ble_eq_true rfl) my_fNumbers_init.2 rfl rfl rfl gw_193 gw_194 ⟨Nat.le_of_ble_eq_true rfl, Nat.le_of_ble_eq_true rfl⟩ (Nat.le_of_ble_eq_true rfl) (fun rv9 w9 _ => ?_)
  refine ee_kV ?_
  refine ee_put dBoxReader_init_12 lpiBoxReader_12 (ee_nR _ _) (fun w12 _ => ?_)
  refine ee_aload_n 0 dBoxReader_init_15 rfl ?_
  refine ee_new dBoxReader_init_16 lnBoxReader_9 (fun v16 w16 _ _ => ?_)
  refine ee_dup dBoxReader_init_19 rfl ?_
  refine ee_callIN (as := []) (st := [.ref v16, .ref l0]) dBoxReader_init_20 (t_fNumbers_init v16 w16) my_fNumbers_init.1 (Nat.le_of_ble_eq_true rfl) my_fNumbers_init.2 rfl rfl rfl gw_193 gw_194 ⟨Nat.le_of_ble_eq_true rfl, Nat.le_of_ble_eq_true rfl⟩ (Nat.le_of_ble_eq_true rfl) (fun rv20 w20 _ => ?_)
  refine ee_kV ?_
  refine ee_put dBoxReader_init_23 lpiBoxReader_18 (ee_nR _ _) (fun w23 _ => ?_)
  refine ee_aload_n 0 dBoxReader_init_26 rfl ?_
  refine ee_iconst (v := (-1 : Int32)) dBoxReader_init_27 (by decide) ?_
  refine ee_put dBoxReader_init_28 lpiBoxReader_21 (ee_nI _) (fun w28 _ => ?_)
  refine ee_aload_n 0 dBoxReader_init_31 rfl ?_
  refine ee_iconst (v := (0 : Int32)) dBoxReader_init_32 (by decide) ?_
  refine ee_put dBoxReader_init_33 lpiBoxReader_25 (ee_nI _) (fun w33 _ => ?_)
  refine ee_aload_n 0 dBoxReader_init_36 rfl ?_
  refine ee_iconst (v := (0 : Int32)) dBoxReader_init_37 (by decide) ?_
  refine ee_put dBoxReader_init_38 lpiBoxReader_28 (ee_nI _) (fun w38 _ => ?_)
  refine ee_aload_n 0 dBoxReader_init_41 rfl ?_
  refine ee_aload_n 1 dBoxReader_init_42 rfl ?_
  refine ee_put dBoxReader_init_43 lpiBoxReader_31 (ee_nR _ _) (fun w43 _ => ?_)
  exact ee_vret rfl dBoxReader_init_46
def fBoxReader_forget (l0 : Nat) (w : PW) : PX := (p_getR w l0 1 1).bind fun v1 => (p_put w v1 5 1 (.int (0 : Int32))).bind fun w5 => (p_getR w5 l0 1 2).bind fun v9 => (p_put w5 v9 5 1 (.int (0 : Int32))).bind fun w13 => (p_put w13 l0 1 3 (.int (-1 : Int32))).bind fun w18 => some (.inl none, w18)
set_option maxRecDepth 20000 in
set_option maxHeartbeats 2000000 in
theorem t_fBoxReader_forget {Γ : PG} : ∀ (l0 : Nat) (w : PW), EE Γ MBoxReader_forget 0 (lv_args 0 [.ref l0]) [] w (fBoxReader_forget l0 w) := by
  intro l0 w
  unfold fBoxReader_forget
  show EE Γ MBoxReader_forget 0 [(0, .ref l0)] [] w _
  refine ee_aload_n 0 dBoxReader_forget_0 rfl ?_
  refine ee_getR dBoxReader_forget_1 lfBoxReader_12 (fun v1 _ => ?_)
  refine ee_iconst (v := (0 : Int32)) dBoxReader_forget_4 (by decide) ?_
  refine ee_put dBoxReader_forget_5 lpBoxReader_35 (ee_nI _) (fun w5 _ => ?_)
  refine ee_aload_n 0 dBoxReader_forget_8 rfl ?_
  refine ee_getR dBoxReader_forget_9 lfBoxReader_18 (fun v9 _ => ?_)
  refine ee_iconst (v := (0 : Int32)) dBoxReader_forget_12 (by decide) ?_
  refine ee_put dBoxReader_forget_13 lpBoxReader_35 (ee_nI _) (fun w13 _ => ?_)
  refine ee_aload_n 0 dBoxReader_forget_16 rfl ?_
  refine ee_iconst (v := (-1 : Int32)) dBoxReader_forget_17 (by decide) ?_
  refine ee_put dBoxReader_forget_18 lpBoxReader_21 (ee_nI _) (fun w18 _ => ?_)
  exact ee_vret rfl dBoxReader_forget_21
def fBoxReader_kindAt (l0 : Nat) (l1 : Int32) (w : PW) : PX := (p_getR w l0 1 0).bind fun v1 => (p_obj w v1 2).bind fun _ => p_call (fBytes_number v1 (l1 + (4 : Int32)) (4 : Int32) w) <| p_kJ fun v8 w8 => some (.inl (some (.int (Int64.toInt32 v8))), w8)
set_option maxRecDepth 20000 in
set_option maxHeartbeats 2000000 in
theorem t_fBoxReader_kindAt {Γ : PG} : ∀ (l0 : Nat) (l1 : Int32) (w : PW), EE Γ MBoxReader_kindAt 0 (lv_args 0 [.ref l0, .int l1]) [] w (fBoxReader_kindAt l0 l1 w) := by
  intro l0 l1 w
  unfold fBoxReader_kindAt
  show EE Γ MBoxReader_kindAt 0 [(0, .ref l0), (1, .int l1)] [] w _
  refine ee_aload_n 0 dBoxReader_kindAt_0 rfl ?_
  refine ee_getR dBoxReader_kindAt_1 lfBoxReader_31 (fun v1 _ => ?_)
  refine ee_iload_n 1 dBoxReader_kindAt_4 rfl ?_
  refine ee_iconst (v := (4 : Int32)) dBoxReader_kindAt_5 (by decide) ?_
  refine ee_iadd dBoxReader_kindAt_6 ?_
  refine ee_iconst (v := (4 : Int32)) dBoxReader_kindAt_7 (by decide) ?_
  refine ee_bind (fun _ ho8 => ?_)
  refine ee_callV (as := [.int (l1 + (4 : Int32)), .int (4 : Int32)]) (st := []) dBoxReader_kindAt_8 (t_fBytes_number v1 (l1 + (4 : Int32)) (4 : Int32) w) my_fBytes_number.1 (Nat.le_of_ble_eq_true rfl) my_fBytes_number.2 rfl cf_2.1 rfl (p_obj_eq.mp ho8) gw_537 gw_538 gw_539 ⟨Nat.le_of_ble_eq_true rfl, Nat.le_of_ble_eq_true rfl⟩ (Nat.le_of_ble_eq_true rfl) (fun rv8 w8 _ => ?_)
  refine ee_kJ (fun v8 => ?_)
  refine ee_l2i dBoxReader_kindAt_11 ?_
  exact ee_iret rfl dBoxReader_kindAt_12
def fBoxReader_beginsWithSignature (l0 : Nat) (w : PW) : PX := (p_getR w l0 1 0).bind fun v1 => (p_getI w v1 2 2).bind fun v4 => if v4 < (12 : Int32) then (p_retZ (0 : Int32) w) else ((p_getR w l0 1 0).bind fun v13 => (p_obj w v13 2).bind fun _ => p_call (fBytes_number v13 (0 : Int32) (4 : Int32) w) <| p_kJ fun v18 w18 => if ¬ (lg_cmp v18 (12 : Int64)) = 0 then (p_retZ (0 : Int32) w18) else ((p_obj w18 l0 1).bind fun _ => p_call (fBoxReader_kindAt l0 (0 : Int32) w18) <| p_kI fun v30 w30 => if ¬ v30 = (1783636000 : Int32) then (p_retZ (0 : Int32) w30) else ((p_getR w30 l0 1 0).bind fun v39 => (p_obj w30 v39 2).bind fun _ => p_call (fBytes_number v39 (8 : Int32) (4 : Int32) w30) <| p_kJ fun v45 w45 => if ¬ (Int64.toInt32 v45) = (218793738 : Int32) then (p_retZ (0 : Int32) w45) else (p_retZ (1 : Int32) w45))))
set_option maxRecDepth 20000 in
set_option maxHeartbeats 2000000 in
theorem t_fBoxReader_beginsWithSignature {Γ : PG} : ∀ (l0 : Nat) (w : PW), EE Γ MBoxReader_beginsWithSignature 0 (lv_args 0 [.ref l0]) [] w (fBoxReader_beginsWithSignature l0 w) := by
  intro l0 w
  unfold fBoxReader_beginsWithSignature
  show EE Γ MBoxReader_beginsWithSignature 0 [(0, .ref l0)] [] w _
  refine ee_aload_n 0 dBoxReader_beginsWithSignature_0 rfl ?_
  refine ee_getR dBoxReader_beginsWithSignature_1 lfBoxReader_31 (fun v1 _ => ?_)
  refine ee_getI dBoxReader_beginsWithSignature_4 lfBoxReader_38 (fun v4 _ => ?_)
  refine ee_bipush (v := (12 : Int32)) dBoxReader_beginsWithSignature_7 (by decide) ?_
  refine ee_icmp_lt (tgt := 58) dBoxReader_beginsWithSignature_9 (by decide) (fun h9 => ?_) (fun h9 => ?_)
  · refine ee_iconst (v := (0 : Int32)) dBoxReader_beginsWithSignature_58 (by decide) ?_
    exact ee_zret rfl dBoxReader_beginsWithSignature_59
  · refine ee_aload_n 0 dBoxReader_beginsWithSignature_12 rfl ?_
    refine ee_getR dBoxReader_beginsWithSignature_13 lfBoxReader_31 (fun v13 _ => ?_)
    refine ee_iconst (v := (0 : Int32)) dBoxReader_beginsWithSignature_16 (by decide) ?_
    refine ee_iconst (v := (4 : Int32)) dBoxReader_beginsWithSignature_17 (by decide) ?_
    refine ee_bind (fun _ ho18 => ?_)
    refine ee_callV (as := [.int (0 : Int32), .int (4 : Int32)]) (st := []) dBoxReader_beginsWithSignature_18 (t_fBytes_number v13 (0 : Int32) (4 : Int32) w) my_fBytes_number.1 (Nat.le_of_ble_eq_true rfl) my_fBytes_number.2 rfl cf_2.1 rfl (p_obj_eq.mp ho18) gw_537 gw_538 gw_539 ⟨Nat.le_of_ble_eq_true rfl, Nat.le_of_ble_eq_true rfl⟩ (Nat.le_of_ble_eq_true rfl) (fun rv18 w18 _ => ?_)
    refine ee_kJ (fun v18 => ?_)
    refine ee_ldc2 (v := (12 : Int64)) dBoxReader_beginsWithSignature_21 gw_544 ?_
    refine ee_lcmp dBoxReader_beginsWithSignature_24 ?_
    refine ee_if_ne (tgt := 58) dBoxReader_beginsWithSignature_25 (by decide) (fun h25 => ?_) (fun h25 => ?_)
    · refine ee_iconst (v := (0 : Int32)) dBoxReader_beginsWithSignature_58 (by decide) ?_
      exact ee_zret rfl dBoxReader_beginsWithSignature_59
    · refine ee_aload_n 0 dBoxReader_beginsWithSignature_28 rfl ?_
      refine ee_iconst (v := (0 : Int32)) dBoxReader_beginsWithSignature_29 (by decide) ?_
      refine ee_bind (fun _ ho30 => ?_)
      refine ee_callV (as := [.int (0 : Int32)]) (st := []) dBoxReader_beginsWithSignature_30 (t_fBoxReader_kindAt l0 (0 : Int32) w18) my_fBoxReader_kindAt.1 (Nat.le_of_ble_eq_true rfl) my_fBoxReader_kindAt.2 rfl cf_1.1 rfl (p_obj_eq.mp ho30) gw_545 gw_546 gw_547 ⟨Nat.le_of_ble_eq_true rfl, Nat.le_of_ble_eq_true rfl⟩ (Nat.le_of_ble_eq_true rfl) (fun rv30 w30 _ => ?_)
      refine ee_kI (fun v30 => ?_)
      refine ee_ldc (v := (1783636000 : Int32)) dBoxReader_beginsWithSignature_33 gw_549 ?_
      refine ee_icmp_ne (tgt := 58) dBoxReader_beginsWithSignature_35 (by decide) (fun h35 => ?_) (fun h35 => ?_)
      · refine ee_iconst (v := (0 : Int32)) dBoxReader_beginsWithSignature_58 (by decide) ?_
        exact ee_zret rfl dBoxReader_beginsWithSignature_59
      · refine ee_aload_n 0 dBoxReader_beginsWithSignature_38 rfl ?_
        refine ee_getR dBoxReader_beginsWithSignature_39 lfBoxReader_31 (fun v39 _ => ?_)
        refine ee_bipush (v := (8 : Int32)) dBoxReader_beginsWithSignature_42 (by decide) ?_
        refine ee_iconst (v := (4 : Int32)) dBoxReader_beginsWithSignature_44 (by decide) ?_
        refine ee_bind (fun _ ho45 => ?_)
        refine ee_callV (as := [.int (8 : Int32), .int (4 : Int32)]) (st := []) dBoxReader_beginsWithSignature_45 (t_fBytes_number v39 (8 : Int32) (4 : Int32) w30) my_fBytes_number.1 (Nat.le_of_ble_eq_true rfl) my_fBytes_number.2 rfl cf_2.1 rfl (p_obj_eq.mp ho45) gw_537 gw_538 gw_539 ⟨Nat.le_of_ble_eq_true rfl, Nat.le_of_ble_eq_true rfl⟩ (Nat.le_of_ble_eq_true rfl) (fun rv45 w45 _ => ?_)
        refine ee_kJ (fun v45 => ?_)
        refine ee_l2i dBoxReader_beginsWithSignature_48 ?_
        refine ee_ldc (v := (218793738 : Int32)) dBoxReader_beginsWithSignature_49 gw_550 ?_
        refine ee_icmp_ne (tgt := 58) dBoxReader_beginsWithSignature_51 (by decide) (fun h51 => ?_) (fun h51 => ?_)
        · refine ee_iconst (v := (0 : Int32)) dBoxReader_beginsWithSignature_58 (by decide) ?_
          exact ee_zret rfl dBoxReader_beginsWithSignature_59
        · refine ee_iconst (v := (1 : Int32)) dBoxReader_beginsWithSignature_54 (by decide) ?_
          refine ee_goto (tgt := 59) dBoxReader_beginsWithSignature_55 (by decide) ?_
          exact ee_zret rfl dBoxReader_beginsWithSignature_59
def fBoxReader_boxEnd (l0 : Nat) (l1 : Int32) (l2 : Int32) (l3 : Int32) (w : PW) : PX := if (8 : Int32) ≤ (l2 - l1) then ((p_getR w l0 1 0).bind fun v11 => (p_obj w v11 2).bind fun _ => p_call (fBytes_number v11 l1 (4 : Int32) w) <| p_kJ fun v16 w16 => if ¬ (lg_cmp v16 (0 : Int64)) = 0 then (if 0 ≤ (lg_cmp v16 (8 : Int64)) then (if (lg_cmp v16 (Int32.toInt64 (l2 - l1))) ≤ 0 then (some (.inl (some (.int (l1 + (Int64.toInt32 v16)))), w16)) else (if l3 = 0 then (some (.inl (some (.int (-1 : Int32))), w16)) else ((p_obj w16 l0 1).bind fun _ => p_call (fBoxReader_kindAt l0 l1 w16) <| p_kI fun v57 w57 => if ¬ v57 = (1785737827 : Int32) then (some (.inl (some (.int (-1 : Int32))), w57)) else (some (.inl (some (.int l2)), w57))))) else (some (.inl (some (.int (-1 : Int32))), w16))) else (some (.inl (some (.int l2)), w16))) else (some (.inl (some (.int (-1 : Int32))), w))
set_option maxRecDepth 20000 in
set_option maxHeartbeats 2000000 in
theorem t_fBoxReader_boxEnd {Γ : PG} : ∀ (l0 : Nat) (l1 : Int32) (l2 : Int32) (l3 : Int32) (w : PW), EE Γ MBoxReader_boxEnd 0 (lv_args 0 [.ref l0, .int l1, .int l2, .int l3]) [] w (fBoxReader_boxEnd l0 l1 l2 l3 w) := by
  intro l0 l1 l2 l3 w
  unfold fBoxReader_boxEnd
  show EE Γ MBoxReader_boxEnd 0 [(0, .ref l0), (1, .int l1), (2, .int l2), (3, .int l3)] [] w _
  refine ee_iload_n 2 dBoxReader_boxEnd_0 rfl ?_
  refine ee_iload_n 1 dBoxReader_boxEnd_1 rfl ?_
  refine ee_isub dBoxReader_boxEnd_2 ?_
  refine ee_bipush (v := (8 : Int32)) dBoxReader_boxEnd_3 (by decide) ?_
  refine ee_icmp_ge (tgt := 10) dBoxReader_boxEnd_5 (by decide) (fun h5 => ?_) (fun h5 => ?_)
  · refine ee_aload_n 0 dBoxReader_boxEnd_10 rfl ?_
    refine ee_getR dBoxReader_boxEnd_11 lfBoxReader_31 (fun v11 _ => ?_)
    refine ee_iload_n 1 dBoxReader_boxEnd_14 rfl ?_
    refine ee_iconst (v := (4 : Int32)) dBoxReader_boxEnd_15 (by decide) ?_
    refine ee_bind (fun _ ho16 => ?_)
    refine ee_callV (as := [.int l1, .int (4 : Int32)]) (st := []) dBoxReader_boxEnd_16 (t_fBytes_number v11 l1 (4 : Int32) w) my_fBytes_number.1 (Nat.le_of_ble_eq_true rfl) my_fBytes_number.2 rfl cf_2.1 rfl (p_obj_eq.mp ho16) gw_537 gw_538 gw_539 ⟨Nat.le_of_ble_eq_true rfl, Nat.le_of_ble_eq_true rfl⟩ (Nat.le_of_ble_eq_true rfl) (fun rv16 w16 _ => ?_)
    refine ee_kJ (fun v16 => ?_)
    refine ee_lstore (lv2 := [(4, .long v16), (0, .ref l0), (1, .int l1), (2, .int l2), (3, .int l3)]) dBoxReader_boxEnd_19 (Nat.le_of_ble_eq_true rfl) rfl ?_
    refine ee_lload 0 dBoxReader_boxEnd_21 rfl ?_
    refine ee_lconst (v := (0 : Int64)) dBoxReader_boxEnd_23 (by decide) ?_
    refine ee_lcmp dBoxReader_boxEnd_24 ?_
    refine ee_if_ne (tgt := 30) dBoxReader_boxEnd_25 (by decide) (fun h25 => ?_) (fun h25 => ?_)
    · refine ee_lload 0 dBoxReader_boxEnd_30 rfl ?_
      refine ee_ldc2 (v := (8 : Int64)) dBoxReader_boxEnd_32 gw_559 ?_
      refine ee_lcmp dBoxReader_boxEnd_35 ?_
      refine ee_if_ge (tgt := 41) dBoxReader_boxEnd_36 (by decide) (fun h36 => ?_) (fun h36 => ?_)
      · refine ee_lload 0 dBoxReader_boxEnd_41 rfl ?_
        refine ee_iload_n 3 dBoxReader_boxEnd_43 rfl ?_
        refine ee_iload_n 2 dBoxReader_boxEnd_44 rfl ?_
        refine ee_isub dBoxReader_boxEnd_45 ?_
        refine ee_i2l dBoxReader_boxEnd_46 ?_
        refine ee_lcmp dBoxReader_boxEnd_47 ?_
        refine ee_if_le (tgt := 71) dBoxReader_boxEnd_48 (by decide) (fun h48 => ?_) (fun h48 => ?_)
        · refine ee_iload_n 2 dBoxReader_boxEnd_71 rfl ?_
          refine ee_lload 0 dBoxReader_boxEnd_72 rfl ?_
          refine ee_l2i dBoxReader_boxEnd_74 ?_
          refine ee_iadd dBoxReader_boxEnd_75 ?_
          exact ee_iret rfl dBoxReader_boxEnd_76
        · refine ee_iload_n 4 dBoxReader_boxEnd_51 rfl ?_
          refine ee_if_eq (tgt := 69) dBoxReader_boxEnd_52 (by decide) (fun h52 => ?_) (fun h52 => ?_)
          · refine ee_iconst (v := (-1 : Int32)) dBoxReader_boxEnd_69 (by decide) ?_
            exact ee_iret rfl dBoxReader_boxEnd_70
          · refine ee_aload_n 1 dBoxReader_boxEnd_55 rfl ?_
            refine ee_iload_n 2 dBoxReader_boxEnd_56 rfl ?_
            refine ee_bind (fun _ ho57 => ?_)
            refine ee_callV (as := [.int l1]) (st := []) dBoxReader_boxEnd_57 (t_fBoxReader_kindAt l0 l1 w16) my_fBoxReader_kindAt.1 (Nat.le_of_ble_eq_true rfl) my_fBoxReader_kindAt.2 rfl cf_1.1 rfl (p_obj_eq.mp ho57) gw_545 gw_546 gw_547 ⟨Nat.le_of_ble_eq_true rfl, Nat.le_of_ble_eq_true rfl⟩ (Nat.le_of_ble_eq_true rfl) (fun rv57 w57 _ => ?_)
            refine ee_kI (fun v57 => ?_)
            refine ee_ldc (v := (1785737827 : Int32)) dBoxReader_boxEnd_60 gw_560 ?_
            refine ee_icmp_ne (tgt := 69) dBoxReader_boxEnd_62 (by decide) (fun h62 => ?_) (fun h62 => ?_)
            · refine ee_iconst (v := (-1 : Int32)) dBoxReader_boxEnd_69 (by decide) ?_
              exact ee_iret rfl dBoxReader_boxEnd_70
            · refine ee_iload_n 3 dBoxReader_boxEnd_65 rfl ?_
              refine ee_goto (tgt := 70) dBoxReader_boxEnd_66 (by decide) ?_
              exact ee_iret rfl dBoxReader_boxEnd_70
      · refine ee_iconst (v := (-1 : Int32)) dBoxReader_boxEnd_39 (by decide) ?_
        exact ee_iret rfl dBoxReader_boxEnd_40
    · refine ee_iload_n 3 dBoxReader_boxEnd_28 rfl ?_
      exact ee_iret rfl dBoxReader_boxEnd_29
  · refine ee_iconst (v := (-1 : Int32)) dBoxReader_boxEnd_8 (by decide) ?_
    exact ee_iret rfl dBoxReader_boxEnd_9
def fHeadReader_init (l0 : Nat) (l1 : Nat) (l2 : Nat) (w : PW) : PX := (p_put w l0 3 2 (.int (0 : Int32))).bind fun w6 => (p_put w6 l0 3 0 (.ref l1)).bind fun w11 => (p_put w11 l0 3 1 (.ref l2)).bind fun w16 => some (.inl none, w16)
set_option maxRecDepth 20000 in
set_option maxHeartbeats 2000000 in
theorem t_fHeadReader_init {Γ : PG} : ∀ (l0 : Nat) (l1 : Nat) (l2 : Nat) (w : PW), EE Γ MHeadReader_init 0 (lv_args 0 [.ref l0, .ref l1, .ref l2]) [] w (fHeadReader_init l0 l1 l2 w) := by
  intro l0 l1 l2 w
  unfold fHeadReader_init
  show EE Γ MHeadReader_init 0 [(0, .ref l0), (1, .ref l1), (2, .ref l2)] [] w _
  refine ee_aload_n 0 dHeadReader_init_0 rfl ?_
  refine ee_objInit dHeadReader_init_1 gw_235 gw_obji gw_objc ⟨Nat.le_of_ble_eq_true rfl, Nat.le_of_ble_eq_true rfl⟩ ?_
  refine ee_aload_n 0 dHeadReader_init_4 rfl ?_
  refine ee_iconst (v := (0 : Int32)) dHeadReader_init_5 (by decide) ?_
  refine ee_put dHeadReader_init_6 lpiHeadReader_9 (ee_nI _) (fun w6 _ => ?_)
  refine ee_aload_n 0 dHeadReader_init_9 rfl ?_
  refine ee_aload_n 1 dHeadReader_init_10 rfl ?_
  refine ee_put dHeadReader_init_11 lpiHeadReader_15 (ee_nR _ _) (fun w11 _ => ?_)
  refine ee_aload_n 0 dHeadReader_init_14 rfl ?_
  refine ee_aload_n 2 dHeadReader_init_15 rfl ?_
  refine ee_put dHeadReader_init_16 lpiHeadReader_19 (ee_nR _ _) (fun w16 _ => ?_)
  exact ee_vret rfl dHeadReader_init_19
