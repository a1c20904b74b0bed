def fAL_clear_27T : Nat → Int32 → Int32 → PW → PX
  | 0, _, _, _ => none
  | n9 + 1, l2, l3, w => if l2 ≤ l3 then (some (.inl none, w)) else (none)
set_option maxRecDepth 20000 in
set_option maxHeartbeats 2000000 in
theorem t_fAL_clear_27T {Γ : PG} : ∀ (n9 : Nat) (l2 : Int32) (l3 : Int32) (w : PW), EE Γ MAL_clear 27 [(1, .retAddr 3), (2, .int l2), (3, .int l3)] [] w (fAL_clear_27T n9 l2 l3 w) := by
  intro n9
  induction n9 with
  | zero => intro l2 l3 w; exact ee_none
  | succ n9 ih =>
    intro l2 l3 w
    unfold fAL_clear_27T
    refine ee_iload_n 2 dAL_clear_27 rfl ?_
    refine ee_iload_n 1 dAL_clear_28 rfl ?_
    refine ee_icmp_ge (tgt := 42) dAL_clear_29 (by decide) (fun h29 => ?_) (fun h29 => ?_)
    · exact ee_vret rfl dAL_clear_42
    · refine ee_aload_nT 0 dAL_clear_32 rfl ?_
      refine ee_iload_n 2 dAL_clear_33 rfl ?_
      refine ee_null dAL_clear_34 ?_
      exact ee_none
def fAL_clear_27 : Nat → Nat → Int32 → Int32 → PW → PX
  | 0, _, _, _, _ => none
  | n9 + 1, l1, l2, l3, w => if l2 ≤ l3 then (some (.inl none, w)) else ((p_astR w l1 l3 none).bind fun w35 => p_let (l3 + (1 : Int32)) fun (l3_36 : Int32) => (fAL_clear_27 n9) l1 l2 l3_36 w35)
set_option maxRecDepth 20000 in
set_option maxHeartbeats 2000000 in
theorem t_fAL_clear_27 {Γ : PG} : ∀ (n9 : Nat) (l1 : Nat) (l2 : Int32) (l3 : Int32) (w : PW), EE Γ MAL_clear 27 [(1, .ref l1), (2, .int l2), (3, .int l3)] [] w (fAL_clear_27 n9 l1 l2 l3 w) := by
  intro n9
  induction n9 with
  | zero => intro l1 l2 l3 w; exact ee_none
  | succ n9 ih =>
    intro l1 l2 l3 w
    unfold fAL_clear_27
    refine ee_iload_n 2 dAL_clear_27 rfl ?_
    refine ee_iload_n 1 dAL_clear_28 rfl ?_
    refine ee_icmp_ge (tgt := 42) dAL_clear_29 (by decide) (fun h29 => ?_) (fun h29 => ?_)
    · exact ee_vret rfl dAL_clear_42
    · refine ee_aload_n 0 dAL_clear_32 rfl ?_
      refine ee_iload_n 2 dAL_clear_33 rfl ?_
      refine ee_null dAL_clear_34 ?_
      refine ee_aastN dAL_clear_35 (fun w35 _ => ?_)
      refine ee_iinc 2 dAL_clear_36 rfl (e := (1 : Int32)) (by decide) (Nat.le_of_ble_eq_true rfl) (fun l3_36 _ => ?_)
      refine ee_lv (lv2 := [(3, .int l3_36), (1, .ref l1), (2, .int l2)]) rfl ?_
      refine ee_goto (tgt := 27) dAL_clear_39 (by decide) ?_
      refine ee_pick [1, 2, 0] rfl ?_
      exact ih _ _ _ w35
def fAL_clear (l0 : Nat) (w : PW) : PX := (p_getI w l0 11 0).bind fun v2 => (p_put w l0 11 0 (.int (v2 + (1 : Int32)))).bind fun w7 => (p_getV w7 l0 11 1).bind fun v9 => p_spl v9 (fun v11 => (p_getI w7 l0 11 2).bind fun v16 => (p_put w7 l0 11 2 (.int (0 : Int32))).bind fun w23 => fAL_clear_27 FUEL v11 v16 (0 : Int32) w23) ((p_getI w7 l0 11 2).bind fun v16 => (p_put w7 l0 11 2 (.int (0 : Int32))).bind fun w23 => fAL_clear_27T FUEL v16 (0 : Int32) w23)
set_option maxRecDepth 20000 in
set_option maxHeartbeats 2000000 in
theorem t_fAL_clear {Γ : PG} : ∀ (l0 : Nat) (w : PW), EE Γ MAL_clear 0 (lv_args 0 [.ref l0]) [] w (fAL_clear l0 w) := by
  intro l0 w
  unfold fAL_clear
  show EE Γ MAL_clear 0 [(0, .ref l0)] [] w _
  refine ee_aload_n 0 dAL_clear_0 rfl ?_
  refine ee_dup dAL_clear_1 rfl ?_
  refine ee_getI dAL_clear_2 lfAL_63 (fun v2 _ => ?_)
  refine ee_iconst (v := (1 : Int32)) dAL_clear_5 (by decide) ?_
  refine ee_iadd dAL_clear_6 ?_
  refine ee_put dAL_clear_7 lpAL_63 (ee_nI _) (fun w7 _ => ?_)
  refine ee_aload_n 0 dAL_clear_10 rfl ?_
  refine ee_getV dAL_clear_11 lfAL_9 (fun v11 => ?_) ?_
  · refine ee_astore_n (lv2 := [(1, .ref v11), (0, .ref l0)]) dAL_clear_14 (Nat.le_of_ble_eq_true rfl) rfl ?_
    refine ee_aload_n 1 dAL_clear_15 rfl ?_
    refine ee_getI dAL_clear_16 lfAL_48 (fun v16 _ => ?_)
    refine ee_istore_n (lv2 := [(2, .int v16), (1, .ref v11), (0, .ref l0)]) dAL_clear_19 (Nat.le_of_ble_eq_true rfl) rfl ?_
    refine ee_aload_n 2 dAL_clear_20 rfl ?_
    refine ee_iconst (v := (0 : Int32)) dAL_clear_21 (by decide) ?_
    refine ee_dup_x1 dAL_clear_22 rfl rfl ?_
    refine ee_put dAL_clear_23 lpAL_48 (ee_nI _) (fun w23 _ => ?_)
    refine ee_istore_n (lv2 := [(3, .int (0 : Int32)), (2, .int v16), (1, .ref v11), (0, .ref l0)]) dAL_clear_26 (Nat.le_of_ble_eq_true rfl) rfl ?_
    refine ee_pick [2, 1, 0] rfl ?_
    exact t_fAL_clear_27 FUEL _ _ _ w23
  · refine ee_astore_nT (lv2 := [(1, .retAddr 3), (0, .ref l0)]) dAL_clear_14 (Nat.le_of_ble_eq_true rfl) rfl ?_
    refine ee_aload_n 1 dAL_clear_15 rfl ?_
    refine ee_getI dAL_clear_16 lfAL_48 (fun v16 _ => ?_)
    refine ee_istore_n (lv2 := [(2, .int v16), (1, .retAddr 3), (0, .ref l0)]) dAL_clear_19 (Nat.le_of_ble_eq_true rfl) rfl ?_
    refine ee_aload_n 2 dAL_clear_20 rfl ?_
    refine ee_iconst (v := (0 : Int32)) dAL_clear_21 (by decide) ?_
    refine ee_dup_x1 dAL_clear_22 rfl rfl ?_
    refine ee_put dAL_clear_23 lpAL_48 (ee_nI _) (fun w23 _ => ?_)
    refine ee_istore_n (lv2 := [(3, .int (0 : Int32)), (2, .int v16), (1, .retAddr 3), (0, .ref l0)]) dAL_clear_26 (Nat.le_of_ble_eq_true rfl) rfl ?_
    refine ee_pick [2, 1, 0] rfl ?_
    exact t_fAL_clear_27T FUEL _ _ w23
def fW_clear (l0 : Nat) (w : PW) : PX := (p_getR w l0 0 0).bind fun v1 => (p_getR w l0 0 0).bind fun v5 => (p_getI w v5 7 5).bind fun v8 => (p_getR w l0 0 0).bind fun v12 => (p_getI w v12 7 6).bind fun v15 => (p_obj w v1 7).bind fun _ => p_call (fSettings_restart v1 v8 v15 w) <| p_kV fun w18 => (p_getR w18 l0 0 1).bind fun v22 => (p_obj w18 v22 11).bind fun _ => p_call (fAL_clear v22 w18) <| p_kV fun w25 => (p_getR w25 l0 0 2).bind fun v29 => (p_obj w25 v29 11).bind fun _ => p_call (fAL_clear v29 w25) <| p_kV fun w32 => (p_getR w32 l0 0 3).bind fun v36 => (p_obj w32 v36 9).bind fun _ => p_call (fWriter_begin v36 w32) <| p_kV fun w39 => (p_getR w39 l0 0 4).bind fun v43 => (p_put w39 v43 2 2 (.int (0 : Int32))).bind fun w47 => (p_getR w47 l0 0 5).bind fun v51 => (p_put w47 v51 2 2 (.int (0 : Int32))).bind fun w55 => (p_obj w55 l0 0).bind fun _ => p_call (fW_forgetReading l0 w55) <| p_kV fun w59 => some (.inl none, w59)
set_option maxRecDepth 20000 in
set_option maxHeartbeats 2000000 in
theorem t_fW_clear {Γ : PG} : ∀ (l0 : Nat) (w : PW), EE Γ MW_clear 0 (lv_args 0 [.ref l0]) [] w (fW_clear l0 w) := by
  intro l0 w
  unfold fW_clear
  show EE Γ MW_clear 0 [(0, .ref l0)] [] w _
  refine ee_aload_n 0 dW_clear_0 rfl ?_
  refine ee_getR dW_clear_1 lfW_10 (fun v1 _ => ?_)
  refine ee_aload_n 0 dW_clear_4 rfl ?_
  refine ee_getR dW_clear_5 lfW_10 (fun v5 _ => ?_)
  refine ee_getI dW_clear_8 lfW_301 (fun v8 _ => ?_)
  refine ee_aload_n 0 dW_clear_11 rfl ?_
  refine ee_getR dW_clear_12 lfW_10 (fun v12 _ => ?_)
  refine ee_getI dW_clear_15 lfW_304 (fun v15 _ => ?_)
  refine ee_bind (fun _ ho18 => ?_)
  refine ee_callV (as := [.int v8, .int v15]) (st := []) dW_clear_18 (t_fSettings_restart v1 v8 v15 w) my_fSettings_restart.1 (Nat.le_of_ble_eq_true rfl) my_fSettings_restart.2 rfl cf_7.1 rfl (p_obj_eq.mp ho18) gw_305 gw_306 gw_307 ⟨Nat.le_of_ble_eq_true rfl, Nat.le_of_ble_eq_true rfl⟩ (Nat.le_of_ble_eq_true rfl) (fun rv18 w18 _ => ?_)
  refine ee_kV ?_
  refine ee_aload_n 0 dW_clear_21 rfl ?_
  refine ee_getR dW_clear_22 lfW_19 (fun v22 _ => ?_)
  refine ee_bind (fun _ ho25 => ?_)
  refine ee_callV (as := []) (st := []) dW_clear_25 (t_fAL_clear v22 w18) my_fAL_clear.1 (Nat.le_of_ble_eq_true rfl) my_fAL_clear.2 rfl cf_11.1 rfl (p_obj_eq.mp ho25) gw_732 gw_733 gw_734 ⟨Nat.le_of_ble_eq_true rfl, Nat.le_of_ble_eq_true rfl⟩ (Nat.le_of_ble_eq_true rfl) (fun rv25 w25 _ => ?_)
  refine ee_kV ?_
  refine ee_aload_n 0 dW_clear_28 rfl ?_
  refine ee_getR dW_clear_29 lfW_23 (fun v29 _ => ?_)
  refine ee_bind (fun _ ho32 => ?_)
  refine ee_callV (as := []) (st := []) dW_clear_32 (t_fAL_clear v29 w25) my_fAL_clear.1 (Nat.le_of_ble_eq_true rfl) my_fAL_clear.2 rfl cf_11.1 rfl (p_obj_eq.mp ho32) gw_732 gw_733 gw_734 ⟨Nat.le_of_ble_eq_true rfl, Nat.le_of_ble_eq_true rfl⟩ (Nat.le_of_ble_eq_true rfl) (fun rv32 w32 _ => ?_)
  refine ee_kV ?_
  refine ee_aload_n 0 dW_clear_35 rfl ?_
  refine ee_getR dW_clear_36 lfW_29 (fun v36 _ => ?_)
  refine ee_bind (fun _ ho39 => ?_)
  refine ee_callV (as := []) (st := []) dW_clear_39 (t_fWriter_begin v36 w32) my_fWriter_begin.1 (Nat.le_of_ble_eq_true rfl) my_fWriter_begin.2 rfl cf_9.1 rfl (p_obj_eq.mp ho39) gw_360 gw_361 gw_362 ⟨Nat.le_of_ble_eq_true rfl, Nat.le_of_ble_eq_true rfl⟩ (Nat.le_of_ble_eq_true rfl) (fun rv39 w39 _ => ?_)
  refine ee_kV ?_
  refine ee_aload_n 0 dW_clear_42 rfl ?_
  refine ee_getR dW_clear_43 lfW_38 (fun v43 _ => ?_)
  refine ee_iconst (v := (0 : Int32)) dW_clear_46 (by decide) ?_
  refine ee_put dW_clear_47 lpW_180 (ee_nI _) (fun w47 _ => ?_)
  refine ee_aload_n 0 dW_clear_50 rfl ?_
  refine ee_getR dW_clear_51 lfW_42 (fun v51 _ => ?_)
  refine ee_iconst (v := (0 : Int32)) dW_clear_54 (by decide) ?_
  refine ee_put dW_clear_55 lpW_180 (ee_nI _) (fun w55 _ => ?_)
  refine ee_aload_n 0 dW_clear_58 rfl ?_
  refine ee_bind (fun _ ho59 => ?_)
  refine ee_callV (as := []) (st := []) dW_clear_59 (t_fW_forgetReading l0 w55) my_fW_forgetReading.1 (Nat.le_of_ble_eq_true rfl) my_fW_forgetReading.2 rfl cf_0.1 rfl (p_obj_eq.mp ho59) gw_510 gw_512 gw_0 ⟨Nat.le_of_ble_eq_true rfl, Nat.le_of_ble_eq_true rfl⟩ (Nat.le_of_ble_eq_true rfl) (fun rv59 w59 _ => ?_)
  refine ee_kV ?_
  exact ee_vret rfl dW_clear_62
def fD_near (l0 : Int32) (l1 : Int32) (l2 : Int32) (w : PW) : PX := if l1 ≤ l0 then (if l0 ≤ l2 then (some (.inl (some (.int l0)), w)) else (some (.inl (some (.int l2)), w))) else (some (.inl (some (.int l1)), w))
set_option maxRecDepth 20000 in
set_option maxHeartbeats 2000000 in
theorem t_fD_near {Γ : PG} : ∀ (l0 : Int32) (l1 : Int32) (l2 : Int32) (w : PW), EE Γ MD_near 0 (lv_args 0 [.int l0, .int l1, .int l2]) [] w (fD_near l0 l1 l2 w) := by
  intro l0 l1 l2 w
  unfold fD_near
  show EE Γ MD_near 0 [(0, .int l0), (1, .int l1), (2, .int l2)] [] w _
  refine ee_iload_n 0 dD_near_0 rfl ?_
  refine ee_iload_n 1 dD_near_1 rfl ?_
  refine ee_icmp_ge (tgt := 9) dD_near_2 (by decide) (fun h2 => ?_) (fun h2 => ?_)
  · refine ee_iload_n 0 dD_near_9 rfl ?_
    refine ee_iload_n 2 dD_near_10 rfl ?_
    refine ee_icmp_le (tgt := 18) dD_near_11 (by decide) (fun h11 => ?_) (fun h11 => ?_)
    · refine ee_iload_n 0 dD_near_18 rfl ?_
      exact ee_iret rfl dD_near_19
    · refine ee_iload_n 2 dD_near_14 rfl ?_
      refine ee_goto (tgt := 19) dD_near_15 (by decide) ?_
      exact ee_iret rfl dD_near_19
  · refine ee_iload_n 1 dD_near_5 rfl ?_
    refine ee_goto (tgt := 19) dD_near_6 (by decide) ?_
    exact ee_iret rfl dD_near_19
def fD_put (l0 : Nat) (l1 : Int32) (l2 : Int32) (l3 : Int32) (w : PW) : PX := (p_getR w l0 10 3).bind fun v1 => (p_ast w v1 0 (((11 : Int32) * l1) + l2) l3).bind fun w11 => some (.inl none, w11)
set_option maxRecDepth 20000 in
set_option maxHeartbeats 2000000 in
theorem t_fD_put {Γ : PG} : ∀ (l0 : Nat) (l1 : Int32) (l2 : Int32) (l3 : Int32) (w : PW), EE Γ MD_put 0 (lv_args 0 [.ref l0, .int l1, .int l2, .int l3]) [] w (fD_put l0 l1 l2 l3 w) := by
  intro l0 l1 l2 l3 w
  unfold fD_put
  show EE Γ MD_put 0 [(0, .ref l0), (1, .int l1), (2, .int l2), (3, .int l3)] [] w _
  refine ee_aload_n 0 dD_put_0 rfl ?_
  refine ee_getR dD_put_1 lfD_7 (fun v1 _ => ?_)
  refine ee_bipush (v := (11 : Int32)) dD_put_4 (by decide) ?_
  refine ee_iload_n 1 dD_put_6 rfl ?_
  refine ee_imul dD_put_7 ?_
  refine ee_iload_n 2 dD_put_8 rfl ?_
  refine ee_iadd dD_put_9 ?_
  refine ee_iload_n 3 dD_put_10 rfl ?_
  refine ee_iast (t := 0) dD_put_11 rfl (fun w11 _ => ?_)
  exact ee_vret rfl dD_put_12
def fD_begin_120 (k_98 : Nat → Int32 → Int32 → PW → PX) (l0 : Nat) (l1 : Int32) (l3 : Int32) (s0 : Int32) (s1 : Int32) (s2 : Nat) (w : PW) : PX := (p_ast w s2 2 s1 (vp_nar .boolean s0)).bind fun w120 => (p_getR w120 l0 10 5).bind fun v122 => if ¬ l3 = 0 then ((p_ast w120 v122 2 (l1 + l3) (vp_nar .boolean (0 : Int32))).bind fun w137 => p_let (l3 + (1 : Int32)) fun (l3_138 : Int32) => k_98 l0 l1 l3_138 w137) else ((p_ast w120 v122 2 (l1 + l3) (vp_nar .boolean (1 : Int32))).bind fun w137 => p_let (l3 + (1 : Int32)) fun (l3_138 : Int32) => k_98 l0 l1 l3_138 w137)
set_option maxRecDepth 20000 in
set_option maxHeartbeats 2000000 in
theorem t_fD_begin_120 {Γ : PG} {k_98 : Nat → Int32 → Int32 → PW → PX} (hk_98 : ∀ (l0 : Nat) (l1 : Int32) (l3 : Int32) (w : PW), EE Γ MD_begin 98 [(0, .ref l0), (1, .int l1), (3, .int l3)] [] w (k_98 l0 l1 l3 w)) : ∀ (l0 : Nat) (l1 : Int32) (l3 : Int32) (s0 : Int32) (s1 : Int32) (s2 : Nat) (w : PW), EE Γ MD_begin 120 [(0, .ref l0), (1, .int l1), (3, .int l3)] [.int s0, .int s1, .ref s2] w (fD_begin_120 k_98 l0 l1 l3 s0 s1 s2 w) := by
  intro l0 l1 l3 s0 s1 s2 w
  unfold fD_begin_120
  refine ee_zast (t := 2) dD_begin_120 rfl (fun w120 _ => ?_)
  refine ee_aload_n 0 dD_begin_121 rfl ?_
  refine ee_getR dD_begin_122 lfD_17 (fun v122 _ => ?_)
  refine ee_iload_n 1 dD_begin_125 rfl ?_
  refine ee_iload_n 2 dD_begin_126 rfl ?_
  refine ee_iadd dD_begin_127 ?_
  refine ee_iload_n 2 dD_begin_128 rfl ?_
  refine ee_if_ne (tgt := 136) dD_begin_129 (by decide) (fun h129 => ?_) (fun h129 => ?_)
  · refine ee_iconst (v := (0 : Int32)) dD_begin_136 (by decide) ?_
    refine ee_zast (t := 2) dD_begin_137 rfl (fun w137 _ => ?_)
    refine ee_iinc 2 dD_begin_138 rfl (e := (1 : Int32)) (by decide) (Nat.le_of_ble_eq_true rfl) (fun l3_138 _ => ?_)
    refine ee_lv (lv2 := [(3, .int l3_138), (0, .ref l0), (1, .int l1)]) rfl ?_
    refine ee_goto (tgt := 98) dD_begin_141 (by decide) ?_
    refine ee_pick [1, 2, 0] rfl ?_
    exact hk_98 _ _ _ w137
  · refine ee_iconst (v := (1 : Int32)) dD_begin_132 (by decide) ?_
    refine ee_goto (tgt := 137) dD_begin_133 (by decide) ?_
    refine ee_zast (t := 2) dD_begin_137 rfl (fun w137 _ => ?_)
    refine ee_iinc 2 dD_begin_138 rfl (e := (1 : Int32)) (by decide) (Nat.le_of_ble_eq_true rfl) (fun l3_138 _ => ?_)
    refine ee_lv (lv2 := [(3, .int l3_138), (0, .ref l0), (1, .int l1)]) rfl ?_
    refine ee_goto (tgt := 98) dD_begin_141 (by decide) ?_
    refine ee_pick [1, 2, 0] rfl ?_
    exact hk_98 _ _ _ w137
def fD_begin_98 : Nat → Nat → Int32 → Int32 → PW → PX
  | 0, _, _, _, _ => none
  | n9 + 1, l0, l1, l3, w => if (125 : Int32) ≤ l3 then ((p_obj w l0 10).bind fun _ => p_call (fD_put l0 l1 (4 : Int32) (0 : Int32) w) <| p_kV fun w148 => (p_obj w148 l0 10).bind fun _ => p_call (fD_put l0 l1 (5 : Int32) (1 : Int32) w148) <| p_kV fun w155 => (p_obj w155 l0 10).bind fun _ => p_call (fD_put l0 l1 (6 : Int32) (5 : Int32) w155) <| p_kV fun w163 => (p_obj w163 l0 10).bind fun _ => p_call (fD_put l0 l1 (7 : Int32) (4 : Int32) w163) <| p_kV fun w171 => (p_obj w171 l0 10).bind fun _ => p_call (fD_put l0 l1 (8 : Int32) (1 : Int32) w171) <| p_kV fun w179 => (p_obj w179 l0 10).bind fun _ => p_call (fD_put l0 l1 (9 : Int32) (8 : Int32) w179) <| p_kV fun w188 => (p_obj w188 l0 10).bind fun _ => p_call (fD_put l0 l1 (10 : Int32) (2 : Int32) w188) <| p_kV fun w196 => some (.inl none, w196)) else ((p_getR w l0 10 4).bind fun v105 => if ¬ l3 = 0 then (fD_begin_120 (fD_begin_98 n9) l0 l1 l3 (0 : Int32) (l1 + l3) v105 w) else (fD_begin_120 (fD_begin_98 n9) l0 l1 l3 (1 : Int32) (l1 + l3) v105 w))
set_option maxRecDepth 20000 in
set_option maxHeartbeats 2000000 in
theorem t_fD_begin_98 {Γ : PG} : ∀ (n9 : Nat) (l0 : Nat) (l1 : Int32) (l3 : Int32) (w : PW), EE Γ MD_begin 98 [(0, .ref l0), (1, .int l1), (3, .int l3)] [] w (fD_begin_98 n9 l0 l1 l3 w) := by
  intro n9
  induction n9 with
  | zero => intro l0 l1 l3 w; exact ee_none
  | succ n9 ih =>
    intro l0 l1 l3 w
    unfold fD_begin_98
    refine ee_iload_n 2 dD_begin_98 rfl ?_
    refine ee_bipush (v := (125 : Int32)) dD_begin_99 (by decide) ?_
    refine ee_icmp_ge (tgt := 144) dD_begin_101 (by decide) (fun h101 => ?_) (fun h101 => ?_)
    · refine ee_aload_n 0 dD_begin_144 rfl ?_
      refine ee_iload_n 1 dD_begin_145 rfl ?_
      refine ee_iconst (v := (4 : Int32)) dD_begin_146 (by decide) ?_
      refine ee_iconst (v := (0 : Int32)) dD_begin_147 (by decide) ?_
      refine ee_bind (fun _ ho148 => ?_)
      refine ee_callV (as := [.int l1, .int (4 : Int32), .int (0 : Int32)]) (st := []) dD_begin_148 (t_fD_put l0 l1 (4 : Int32) (0 : Int32) w) my_fD_put.1 (Nat.le_of_ble_eq_true rfl) my_fD_put.2 rfl cf_10.1 rfl (p_obj_eq.mp ho148) gw_1170 gw_1172 gw_9 ⟨Nat.le_of_ble_eq_true rfl, Nat.le_of_ble_eq_true rfl⟩ (Nat.le_of_ble_eq_true rfl) (fun rv148 w148 _ => ?_)
      refine ee_kV ?_
      refine ee_aload_n 0 dD_begin_151 rfl ?_
      refine ee_iload_n 1 dD_begin_152 rfl ?_
      refine ee_iconst (v := (5 : Int32)) dD_begin_153 (by decide) ?_
      refine ee_iconst (v := (1 : Int32)) dD_begin_154 (by decide) ?_
      refine ee_bind (fun _ ho155 => ?_)
      refine ee_callV (as := [.int l1, .int (5 : Int32), .int (1 : Int32)]) (st := []) dD_begin_155 (t_fD_put l0 l1 (5 : Int32) (1 : Int32) w148) my_fD_put.1 (Nat.le_of_ble_eq_true rfl) my_fD_put.2 rfl cf_10.1 rfl (p_obj_eq.mp ho155) gw_1170 gw_1172 gw_9 ⟨Nat.le_of_ble_eq_true rfl, Nat.le_of_ble_eq_true rfl⟩ (Nat.le_of_ble_eq_true rfl) (fun rv155 w155 _ => ?_)
      refine ee_kV ?_
      refine ee_aload_n 0 dD_begin_158 rfl ?_
      refine ee_iload_n 1 dD_begin_159 rfl ?_
      refine ee_bipush (v := (6 : Int32)) dD_begin_160 (by decide) ?_
      refine ee_iconst (v := (5 : Int32)) dD_begin_162 (by decide) ?_
      refine ee_bind (fun _ ho163 => ?_)
      refine ee_callV (as := [.int l1, .int (6 : Int32), .int (5 : Int32)]) (st := []) dD_begin_163 (t_fD_put l0 l1 (6 : Int32) (5 : Int32) w155) my_fD_put.1 (Nat.le_of_ble_eq_true rfl) my_fD_put.2 rfl cf_10.1 rfl (p_obj_eq.mp ho163) gw_1170 gw_1172 gw_9 ⟨Nat.le_of_ble_eq_true rfl, Nat.le_of_ble_eq_true rfl⟩ (Nat.le_of_ble_eq_true rfl) (fun rv163 w163 _ => ?_)
      refine ee_kV ?_
      refine ee_aload_n 0 dD_begin_166 rfl ?_
      refine ee_iload_n 1 dD_begin_167 rfl ?_
      refine ee_bipush (v := (7 : Int32)) dD_begin_168 (by decide) ?_
      refine ee_iconst (v := (4 : Int32)) dD_begin_170 (by decide) ?_
      refine ee_bind (fun _ ho171 => ?_)
      refine ee_callV (as := [.int l1, .int (7 : Int32), .int (4 : Int32)]) (st := []) dD_begin_171 (t_fD_put l0 l1 (7 : Int32) (4 : Int32) w163) my_fD_put.1 (Nat.le_of_ble_eq_true rfl) my_fD_put.2 rfl cf_10.1 rfl (p_obj_eq.mp ho171) gw_1170 gw_1172 gw_9 ⟨Nat.le_of_ble_eq_true rfl, Nat.le_of_ble_eq_true rfl⟩ (Nat.le_of_ble_eq_true rfl) (fun rv171 w171 _ => ?_)
      refine ee_kV ?_
      refine ee_aload_n 0 dD_begin_174 rfl ?_
      refine ee_iload_n 1 dD_begin_175 rfl ?_
      refine ee_bipush (v := (8 : Int32)) dD_begin_176 (by decide) ?_
      refine ee_iconst (v := (1 : Int32)) dD_begin_178 (by decide) ?_
      refine ee_bind (fun _ ho179 => ?_)
      refine ee_callV (as := [.int l1, .int (8 : Int32), .int (1 : Int32)]) (st := []) dD_begin_179 (t_fD_put l0 l1 (8 : Int32) (1 : Int32) w171) my_fD_put.1 (Nat.le_of_ble_eq_true rfl) my_fD_put.2 rfl cf_10.1 rfl (p_obj_eq.mp ho179) gw_1170 gw_1172 gw_9 ⟨Nat.le_of_ble_eq_true rfl, Nat.le_of_ble_eq_true rfl⟩ (Nat.le_of_ble_eq_true rfl) (fun rv179 w179 _ => ?_)
      refine ee_kV ?_
      refine ee_aload_n 0 dD_begin_182 rfl ?_
      refine ee_iload_n 1 dD_begin_183 rfl ?_
      refine ee_bipush (v := (9 : Int32)) dD_begin_184 (by decide) ?_
      refine ee_bipush (v := (8 : Int32)) dD_begin_186 (by decide) ?_
      refine ee_bind (fun _ ho188 => ?_)
      refine ee_callV (as := [.int l1, .int (9 : Int32), .int (8 : Int32)]) (st := []) dD_begin_188 (t_fD_put l0 l1 (9 : Int32) (8 : Int32) w179) my_fD_put.1 (Nat.le_of_ble_eq_true rfl) my_fD_put.2 rfl cf_10.1 rfl (p_obj_eq.mp ho188) gw_1170 gw_1172 gw_9 ⟨Nat.le_of_ble_eq_true rfl, Nat.le_of_ble_eq_true rfl⟩ (Nat.le_of_ble_eq_true rfl) (fun rv188 w188 _ => ?_)
      refine ee_kV ?_
      refine ee_aload_n 0 dD_begin_191 rfl ?_
      refine ee_iload_n 1 dD_begin_192 rfl ?_
      refine ee_bipush (v := (10 : Int32)) dD_begin_193 (by decide) ?_
      refine ee_iconst (v := (2 : Int32)) dD_begin_195 (by decide) ?_
      refine ee_bind (fun _ ho196 => ?_)
      refine ee_callV (as := [.int l1, .int (10 : Int32), .int (2 : Int32)]) (st := []) dD_begin_196 (t_fD_put l0 l1 (10 : Int32) (2 : Int32) w188) my_fD_put.1 (Nat.le_of_ble_eq_true rfl) my_fD_put.2 rfl cf_10.1 rfl (p_obj_eq.mp ho196) gw_1170 gw_1172 gw_9 ⟨Nat.le_of_ble_eq_true rfl, Nat.le_of_ble_eq_true rfl⟩ (Nat.le_of_ble_eq_true rfl) (fun rv196 w196 _ => ?_)
      refine ee_kV ?_
      exact ee_vret rfl dD_begin_199
    · refine ee_aload_n 0 dD_begin_104 rfl ?_
      refine ee_getR dD_begin_105 lfD_13 (fun v105 _ => ?_)
      refine ee_iload_n 1 dD_begin_108 rfl ?_
      refine ee_iload_n 2 dD_begin_109 rfl ?_
      refine ee_iadd dD_begin_110 ?_
      refine ee_iload_n 2 dD_begin_111 rfl ?_
      refine ee_if_ne (tgt := 119) dD_begin_112 (by decide) (fun h112 => ?_) (fun h112 => ?_)
      · refine ee_iconst (v := (0 : Int32)) dD_begin_119 (by decide) ?_
        exact t_fD_begin_120 ih _ _ _ _ _ _ w
      · refine ee_iconst (v := (1 : Int32)) dD_begin_115 (by decide) ?_
        refine ee_goto (tgt := 120) dD_begin_116 (by decide) ?_
        exact t_fD_begin_120 ih _ _ _ _ _ _ w
def fD_begin_85 (k_67 : Nat → Int32 → Int32 → Int32 → PW → PX) (l0 : Nat) (l1 : Int32) (l2 : Int32) (l3 : Int32) (s0 : Int32) (s1 : Nat) (w : PW) : PX := (p_ast w s1 0 (s0 + l3) (8 : Int32)).bind fun w89 => p_let (l3 + (1 : Int32)) fun (l3_90 : Int32) => k_67 l0 l1 l2 l3_90 w89
set_option maxRecDepth 20000 in
set_option maxHeartbeats 2000000 in
theorem t_fD_begin_85 {Γ : PG} {k_67 : Nat → Int32 → Int32 → Int32 → PW → PX} (hk_67 : ∀ (l0 : Nat) (l1 : Int32) (l2 : Int32) (l3 : Int32) (w : PW), EE Γ MD_begin 67 [(0, .ref l0), (1, .int l1), (2, .int l2), (3, .int l3)] [] w (k_67 l0 l1 l2 l3 w)) : ∀ (l0 : Nat) (l1 : Int32) (l2 : Int32) (l3 : Int32) (s0 : Int32) (s1 : Nat) (w : PW), EE Γ MD_begin 85 [(0, .ref l0), (1, .int l1), (2, .int l2), (3, .int l3)] [.int s0, .ref s1] w (fD_begin_85 k_67 l0 l1 l2 l3 s0 s1 w) := by
  intro l0 l1 l2 l3 s0 s1 w
  unfold fD_begin_85
  refine ee_iload_n 3 dD_begin_85 rfl ?_
  refine ee_iadd dD_begin_86 ?_
  refine ee_bipush (v := (8 : Int32)) dD_begin_87 (by decide) ?_
  refine ee_iast (t := 0) dD_begin_89 rfl (fun w89 _ => ?_)
  refine ee_iinc 3 dD_begin_90 rfl (e := (1 : Int32)) (by decide) (Nat.le_of_ble_eq_true rfl) (fun l3_90 _ => ?_)
  refine ee_lv (lv2 := [(3, .int l3_90), (0, .ref l0), (1, .int l1), (2, .int l2)]) rfl ?_
  refine ee_goto (tgt := 67) dD_begin_93 (by decide) ?_
  refine ee_pick [1, 2, 3, 0] rfl ?_
  exact hk_67 _ _ _ _ w89
def fD_begin_67 : Nat → Nat → Int32 → Int32 → Int32 → PW → PX
  | 0, _, _, _, _, _ => none
  | n9 + 1, l0, l1, l2, l3, w => if (4 : Int32) ≤ l3 then (fD_begin_98 FUEL l0 l1 (0 : Int32) w) else ((p_getR w l0 10 6).bind fun v73 => if ¬ l2 = 0 then (fD_begin_85 (fD_begin_67 n9) l0 l1 l2 l3 (4 : Int32) v73 w) else (fD_begin_85 (fD_begin_67 n9) l0 l1 l2 l3 (0 : Int32) v73 w))
set_option maxRecDepth 20000 in
set_option maxHeartbeats 2000000 in
theorem t_fD_begin_67 {Γ : PG} : ∀ (n9 : Nat) (l0 : Nat) (l1 : Int32) (l2 : Int32) (l3 : Int32) (w : PW), EE Γ MD_begin 67 [(0, .ref l0), (1, .int l1), (2, .int l2), (3, .int l3)] [] w (fD_begin_67 n9 l0 l1 l2 l3 w) := by
  intro n9
  induction n9 with
  | zero => intro l0 l1 l2 l3 w; exact ee_none
  | succ n9 ih =>
    intro l0 l1 l2 l3 w
    unfold fD_begin_67
    refine ee_iload_n 3 dD_begin_67 rfl ?_
    refine ee_iconst (v := (4 : Int32)) dD_begin_68 (by decide) ?_
    refine ee_icmp_ge (tgt := 96) dD_begin_69 (by decide) (fun h69 => ?_) (fun h69 => ?_)
    · refine ee_iconst (v := (0 : Int32)) dD_begin_96 (by decide) ?_
      refine ee_istore_n (lv2 := [(3, .int (0 : Int32)), (0, .ref l0), (1, .int l1), (2, .int l2)]) dD_begin_97 (Nat.le_of_ble_eq_true rfl) rfl ?_
      refine ee_pick [1, 2, 0] rfl ?_
      exact t_fD_begin_98 FUEL _ _ _ w
    · refine ee_aload_n 0 dD_begin_72 rfl ?_
      refine ee_getR dD_begin_73 lfD_20 (fun v73 _ => ?_)
      refine ee_iload_n 2 dD_begin_76 rfl ?_
      refine ee_if_ne (tgt := 84) dD_begin_77 (by decide) (fun h77 => ?_) (fun h77 => ?_)
      · refine ee_iconst (v := (4 : Int32)) dD_begin_84 (by decide) ?_
        exact t_fD_begin_85 ih _ _ _ _ _ _ w
      · refine ee_iconst (v := (0 : Int32)) dD_begin_80 (by decide) ?_
        refine ee_goto (tgt := 85) dD_begin_81 (by decide) ?_
        exact t_fD_begin_85 ih _ _ _ _ _ _ w
def fD_begin_9 (l0 : Nat) (l1 : Int32) (s0 : Int32) (w : PW) : PX := (p_getR w l0 10 7).bind fun v11 => (p_getI w l0 10 1).bind fun v16 => (p_ast w v11 0 s0 v16).bind fun w19 => (p_getR w19 l0 10 7).bind fun v21 => (p_getI w19 l0 10 2).bind fun v28 => (p_ast w19 v21 0 (s0 + (1 : Int32)) v28).bind fun w31 => (p_getR w31 l0 10 7).bind fun v33 => (p_ast w31 v33 0 (s0 + (2 : Int32)) (1 : Int32)).bind fun w40 => (p_getR w40 l0 10 7).bind fun v42 => (p_getI w40 l0 10 1).bind fun v49 => (p_ast w40 v42 0 (s0 + (3 : Int32)) v49).bind fun w52 => (p_getR w52 l0 10 7).bind fun v54 => (p_getI w52 l0 10 2).bind fun v61 => (p_ast w52 v54 0 (s0 + (4 : Int32)) v61).bind fun w64 => fD_begin_67 FUEL l0 l1 s0 (0 : Int32) w64
set_option maxRecDepth 20000 in
set_option maxHeartbeats 2000000 in
theorem t_fD_begin_9 {Γ : PG} : ∀ (l0 : Nat) (l1 : Int32) (s0 : Int32) (w : PW), EE Γ MD_begin 9 [(0, .ref l0), (1, .int l1)] [.int s0] w (fD_begin_9 l0 l1 s0 w) := by
  intro l0 l1 s0 w
  unfold fD_begin_9
  refine ee_istore_n (lv2 := [(2, .int s0), (0, .ref l0), (1, .int l1)]) dD_begin_9 (Nat.le_of_ble_eq_true rfl) rfl ?_
  refine ee_aload_n 1 dD_begin_10 rfl ?_
  refine ee_getR dD_begin_11 lfD_23 (fun v11 _ => ?_)
  refine ee_iload_n 0 dD_begin_14 rfl ?_
  refine ee_aload_n 1 dD_begin_15 rfl ?_
  refine ee_getI dD_begin_16 lfD_100 (fun v16 _ => ?_)
  refine ee_iast (t := 0) dD_begin_19 rfl (fun w19 _ => ?_)
  refine ee_aload_n 1 dD_begin_20 rfl ?_
  refine ee_getR dD_begin_21 lfD_23 (fun v21 _ => ?_)
  refine ee_iload_n 0 dD_begin_24 rfl ?_
  refine ee_iconst (v := (1 : Int32)) dD_begin_25 (by decide) ?_
  refine ee_iadd dD_begin_26 ?_
  refine ee_aload_n 1 dD_begin_27 rfl ?_
  refine ee_getI dD_begin_28 lfD_104 (fun v28 _ => ?_)
  refine ee_iast (t := 0) dD_begin_31 rfl (fun w31 _ => ?_)
  refine ee_aload_n 1 dD_begin_32 rfl ?_
  refine ee_getR dD_begin_33 lfD_23 (fun v33 _ => ?_)
  refine ee_iload_n 0 dD_begin_36 rfl ?_
  refine ee_iconst (v := (2 : Int32)) dD_begin_37 (by decide) ?_
  refine ee_iadd dD_begin_38 ?_
  refine ee_iconst (v := (1 : Int32)) dD_begin_39 (by decide) ?_
  refine ee_iast (t := 0) dD_begin_40 rfl (fun w40 _ => ?_)
  refine ee_aload_n 1 dD_begin_41 rfl ?_
  refine ee_getR dD_begin_42 lfD_23 (fun v42 _ => ?_)
  refine ee_iload_n 0 dD_begin_45 rfl ?_
  refine ee_iconst (v := (3 : Int32)) dD_begin_46 (by decide) ?_
  refine ee_iadd dD_begin_47 ?_
  refine ee_aload_n 1 dD_begin_48 rfl ?_
  refine ee_getI dD_begin_49 lfD_100 (fun v49 _ => ?_)
  refine ee_iast (t := 0) dD_begin_52 rfl (fun w52 _ => ?_)
  refine ee_aload_n 1 dD_begin_53 rfl ?_
  refine ee_getR dD_begin_54 lfD_23 (fun v54 _ => ?_)
  refine ee_iload_n 0 dD_begin_57 rfl ?_
  refine ee_iconst (v := (4 : Int32)) dD_begin_58 (by decide) ?_
  refine ee_iadd dD_begin_59 ?_
  refine ee_aload_n 1 dD_begin_60 rfl ?_
  refine ee_getI dD_begin_61 lfD_104 (fun v61 _ => ?_)
  refine ee_iast (t := 0) dD_begin_64 rfl (fun w64 _ => ?_)
  refine ee_iconst (v := (0 : Int32)) dD_begin_65 (by decide) ?_
  refine ee_istore_n (lv2 := [(3, .int (0 : Int32)), (2, .int s0), (0, .ref l0), (1, .int l1)]) dD_begin_66 (Nat.le_of_ble_eq_true rfl) rfl ?_
  refine ee_pick [2, 3, 1, 0] rfl ?_
  exact t_fD_begin_67 FUEL _ _ _ _ w64
def fD_begin (l0 : Nat) (l1 : Int32) (w : PW) : PX := if ¬ l1 = 0 then (fD_begin_9 l0 l1 (5 : Int32) w) else (fD_begin_9 l0 l1 (0 : Int32) w)
set_option maxRecDepth 20000 in
set_option maxHeartbeats 2000000 in
theorem t_fD_begin {Γ : PG} : ∀ (l0 : Nat) (l1 : Int32) (w : PW), EE Γ MD_begin 0 (lv_args 0 [.ref l0, .int l1]) [] w (fD_begin l0 l1 w) := by
  intro l0 l1 w
  unfold fD_begin
  show EE Γ MD_begin 0 [(0, .ref l0), (1, .int l1)] [] w _
  refine ee_iload_n 1 dD_begin_0 rfl ?_
  refine ee_if_ne (tgt := 8) dD_begin_1 (by decide) (fun h1 => ?_) (fun h1 => ?_)
  · refine ee_iconst (v := (5 : Int32)) dD_begin_8 (by decide) ?_
    exact t_fD_begin_9 _ _ _ w
  · refine ee_iconst (v := (0 : Int32)) dD_begin_4 (by decide) ?_
    refine ee_goto (tgt := 9) dD_begin_5 (by decide) ?_
    exact t_fD_begin_9 _ _ _ w
def fD_clear (l0 : Nat) (w : PW) : PX := (p_put w l0 10 0 (.int (0 : Int32))).bind fun w2 => (p_obj w2 l0 10).bind fun _ => p_call (fD_begin l0 (0 : Int32) w2) <| p_kV fun w7 => (p_put w7 l0 10 8 (.int (0 : Int32))).bind fun w12 => (p_put w12 l0 10 14 (.int (0 : Int32))).bind fun w17 => (p_put w17 l0 10 20 (.int (0 : Int32))).bind fun w22 => (p_put w22 l0 10 22 (.int (0 : Int32))).bind fun w27 => if ¬ ((0 : Int32) = 0 ∨ (0 : Int32) = 1) then none else (p_put w27 l0 10 25 (.int (0 : Int32))).bind fun w32 => (p_put w32 l0 10 27 (.int (0 : Int32))).bind fun w37 => (p_put w37 l0 10 30 (.int (0 : Int32))).bind fun w42 => some (.inl none, w42)
set_option maxRecDepth 20000 in
set_option maxHeartbeats 2000000 in
theorem t_fD_clear {Γ : PG} : ∀ (l0 : Nat) (w : PW), EE Γ MD_clear 0 (lv_args 0 [.ref l0]) [] w (fD_clear l0 w) := by
  intro l0 w
  unfold fD_clear
  show EE Γ MD_clear 0 [(0, .ref l0)] [] w _
  refine ee_aload_n 0 dD_clear_0 rfl ?_
  refine ee_iconst (v := (0 : Int32)) dD_clear_1 (by decide) ?_
  refine ee_put dD_clear_2 lpD_110 (ee_nI _) (fun w2 _ => ?_)
  refine ee_aload_n 0 dD_clear_5 rfl ?_
  refine ee_iconst (v := (0 : Int32)) dD_clear_6 (by decide) ?_
  refine ee_bind (fun _ ho7 => ?_)
  refine ee_callV (as := [.int (0 : Int32)]) (st := []) dD_clear_7 (t_fD_begin l0 (0 : Int32) w2) my_fD_begin.1 (Nat.le_of_ble_eq_true rfl) my_fD_begin.2 rfl cf_10.1 rfl (p_obj_eq.mp ho7) gw_1166 gw_1168 gw_8 ⟨Nat.le_of_ble_eq_true rfl, Nat.le_of_ble_eq_true rfl⟩ (Nat.le_of_ble_eq_true rfl) (fun rv7 w7 _ => ?_)
  refine ee_kV ?_
  refine ee_aload_n 0 dD_clear_10 rfl ?_
  refine ee_iconst (v := (0 : Int32)) dD_clear_11 (by decide) ?_
  refine ee_put dD_clear_12 lpD_145 (ee_nI _) (fun w12 _ => ?_)
  refine ee_aload_n 0 dD_clear_15 rfl ?_
  refine ee_iconst (v := (0 : Int32)) dD_clear_16 (by decide) ?_
  refine ee_put dD_clear_17 lpD_209 (ee_nI _) (fun w17 _ => ?_)
  refine ee_aload_n 0 dD_clear_20 rfl ?_
  refine ee_iconst (v := (0 : Int32)) dD_clear_21 (by decide) ?_
  refine ee_put dD_clear_22 lpD_212 (ee_nI _) (fun w22 _ => ?_)
  refine ee_aload_n 0 dD_clear_25 rfl ?_
  refine ee_iconst (v := (0 : Int32)) dD_clear_26 (by decide) ?_
  refine ee_put dD_clear_27 lpD_255 (ee_nI _) (fun w27 _ => ?_)
  refine ee_aload_n 0 dD_clear_30 rfl ?_
  refine ee_iconst (v := (0 : Int32)) dD_clear_31 (by decide) ?_
  refine ee_ite (fun _ => ee_none) (fun hz32 => ?_)
  refine ee_put dD_clear_32 lpD_380 (ee_nZ _ (Classical.byContradiction hz32)) (fun w32 _ => ?_)
  refine ee_aload_n 0 dD_clear_35 rfl ?_
  refine ee_iconst (v := (0 : Int32)) dD_clear_36 (by decide) ?_
  refine ee_put dD_clear_37 lpD_269 (ee_nI _) (fun w37 _ => ?_)
  refine ee_aload_n 0 dD_clear_40 rfl ?_
  refine ee_iconst (v := (0 : Int32)) dD_clear_41 (by decide) ?_
  refine ee_put dD_clear_42 lpD_349 (ee_nI _) (fun w42 _ => ?_)
  exact ee_vret rfl dD_clear_45
def fD_init (l0 : Nat) (l1 : Int32) (l2 : Int32) (w : PW) : PX := p_newA w 0 4 (2750 : Int32) fun v8 w8 => (p_put w8 l0 10 3 (.ref v8)).bind fun w10 => p_newA w10 2 1 (250 : Int32) fun v17 w17 => (p_put w17 l0 10 4 (.ref v17)).bind fun w19 => p_newA w19 2 1 (250 : Int32) fun v26 w26 => (p_put w26 l0 10 5 (.ref v26)).bind fun w28 => p_newA w28 0 4 (8 : Int32) fun v34 w34 => (p_put w34 l0 10 6 (.ref v34)).bind fun w36 => p_newA w36 0 4 (10 : Int32) fun v42 w42 => (p_put w42 l0 10 7 (.ref v42)).bind fun w44 => p_newA w44 0 4 (40 : Int32) fun v50 w50 => (p_put w50 l0 10 9 (.ref v50)).bind fun w52 => p_newA w52 0 4 (40 : Int32) fun v58 w58 => (p_put w58 l0 10 10 (.ref v58)).bind fun w60 => p_newA w60 0 4 (800 : Int32) fun v67 w67 => (p_put w67 l0 10 11 (.ref v67)).bind fun w69 => p_newA w69 0 4 (40 : Int32) fun v75 w75 => (p_put w75 l0 10 12 (.ref v75)).bind fun w77 => p_newA w77 0 4 (12000 : Int32) fun v84 w84 => (p_put w84 l0 10 13 (.ref v84)).bind fun w86 => p_newA w86 2 1 (8 : Int32) fun v92 w92 => (p_put w92 l0 10 15 (.ref v92)).bind fun w94 => p_newA w94 0 4 (8 : Int32) fun v100 w100 => (p_put w100 l0 10 16 (.ref v100)).bind fun w102 => p_newA w102 0 4 (8 : Int32) fun v108 w108 => (p_put w108 l0 10 17 (.ref v108)).bind fun w110 => p_newA w110 0 4 (320 : Int32) fun v117 w117 => (p_put w117 l0 10 18 (.ref v117)).bind fun w119 => p_newA w119 0 4 (40000 : Int32) fun v125 w125 => (p_put w125 l0 10 19 (.ref v125)).bind fun w127 => p_newA w127 0 4 (20000 : Int32) fun v134 w134 => (p_put w134 l0 10 21 (.ref v134)).bind fun w136 => p_newA w136 0 4 (20000 : Int32) fun v143 w143 => (p_put w143 l0 10 23 (.ref v143)).bind fun w145 => p_newA w145 0 4 (2600 : Int32) fun v152 w152 => (p_put w152 l0 10 28 (.ref v152)).bind fun w154 => p_newA w154 0 4 (2600 : Int32) fun v161 w161 => (p_put w161 l0 10 29 (.ref v161)).bind fun w163 => p_newA w163 0 4 (300 : Int32) fun v170 w170 => (p_put w170 l0 10 31 (.ref v170)).bind fun w172 => p_newA w172 0 4 (300 : Int32) fun v179 w179 => (p_put w179 l0 10 32 (.ref v179)).bind fun w181 => p_newA w181 0 4 (300 : Int32) fun v188 w188 => (p_put w188 l0 10 33 (.ref v188)).bind fun w190 => p_newA w190 0 4 (300 : Int32) fun v197 w197 => (p_put w197 l0 10 34 (.ref v197)).bind fun w199 => p_newA w199 0 4 (300 : Int32) fun v206 w206 => (p_put w206 l0 10 35 (.ref v206)).bind fun w208 => p_newA w208 2 1 (300 : Int32) fun v215 w215 => (p_put w215 l0 10 36 (.ref v215)).bind fun w217 => p_newA w217 2 1 (300 : Int32) fun v224 w224 => (p_put w224 l0 10 37 (.ref v224)).bind fun w226 => p_newA w226 0 4 (24 : Int32) fun v232 w232 => (p_put w232 l0 10 38 (.ref v232)).bind fun w234 => p_newA w234 0 4 (200 : Int32) fun v241 w241 => (p_put w241 l0 10 42 (.ref v241)).bind fun w243 => p_call (fD_near l1 (1 : Int32) (2000 : Int32) w243) <| p_kI fun v252 w252 => (p_put w252 l0 10 1 (.int v252)).bind fun w255 => p_call (fD_near l2 (1 : Int32) (2000 : Int32) w255) <| p_kI fun v264 w264 => (p_put w264 l0 10 2 (.int v264)).bind fun w267 => (p_obj w267 l0 10).bind fun _ => p_call (fD_clear l0 w267) <| p_kV fun w271 => some (.inl none, w271)
set_option maxRecDepth 20000 in
set_option maxHeartbeats 2000000 in
theorem t_fD_init {Γ : PG} : ∀ (l0 : Nat) (l1 : Int32) (l2 : Int32) (w : PW), EE Γ MD_init 0 (lv_args 0 [.ref l0, .int l1, .int l2]) [] w (fD_init l0 l1 l2 w) := by
  intro l0 l1 l2 w
  unfold fD_init
  show EE Γ MD_init 0 [(0, .ref l0), (1, .int l1), (2, .int l2)] [] w _
  refine ee_aload_n 0 dD_init_0 rfl ?_
  refine ee_objInit dD_init_1 gw_1157 gw_obji gw_objc ⟨Nat.le_of_ble_eq_true rfl, Nat.le_of_ble_eq_true rfl⟩ ?_
  refine ee_aload_n 0 dD_init_4 rfl ?_
  refine ee_sipush (v := (2750 : Int32)) dD_init_5 (by decide) ?_
  refine ee_newI dD_init_8 (fun v8 w8 _ _ _ => ?_)
  refine ee_put dD_init_10 lpiD_7 (ee_nRA _ _) (fun w10 _ => ?_)
  refine ee_aload_n 0 dD_init_13 rfl ?_
  refine ee_sipush (v := (250 : Int32)) dD_init_14 (by decide) ?_
  refine ee_newZ dD_init_17 (fun v17 w17 _ _ _ => ?_)
  refine ee_put dD_init_19 lpiD_13 (ee_nRA _ _) (fun w19 _ => ?_)
  refine ee_aload_n 0 dD_init_22 rfl ?_
  refine ee_sipush (v := (250 : Int32)) dD_init_23 (by decide) ?_
  refine ee_newZ dD_init_26 (fun v26 w26 _ _ _ => ?_)
  refine ee_put dD_init_28 lpiD_17 (ee_nRA _ _) (fun w28 _ => ?_)
  refine ee_aload_n 0 dD_init_31 rfl ?_
  refine ee_bipush (v := (8 : Int32)) dD_init_32 (by decide) ?_
  refine ee_newI dD_init_34 (fun v34 w34 _ _ _ => ?_)
  refine ee_put dD_init_36 lpiD_20 (ee_nRA _ _) (fun w36 _ => ?_)
  refine ee_aload_n 0 dD_init_39 rfl ?_
  refine ee_bipush (v := (10 : Int32)) dD_init_40 (by decide) ?_
  refine ee_newI dD_init_42 (fun v42 w42 _ _ _ => ?_)
  refine ee_put dD_init_44 lpiD_23 (ee_nRA _ _) (fun w44 _ => ?_)
  refine ee_aload_n 0 dD_init_47 rfl ?_
  refine ee_bipush (v := (40 : Int32)) dD_init_48 (by decide) ?_
  refine ee_newI dD_init_50 (fun v50 w50 _ _ _ => ?_)
  refine ee_put dD_init_52 lpiD_26 (ee_nRA _ _) (fun w52 _ => ?_)
  refine ee_aload_n 0 dD_init_55 rfl ?_
  refine ee_bipush (v := (40 : Int32)) dD_init_56 (by decide) ?_
  refine ee_newI dD_init_58 (fun v58 w58 _ _ _ => ?_)
  refine ee_put dD_init_60 lpiD_29 (ee_nRA _ _) (fun w60 _ => ?_)
  refine ee_aload_n 0 dD_init_63 rfl ?_
  refine ee_sipush (v := (800 : Int32)) dD_init_64 (by decide) ?_
  refine ee_newI dD_init_67 (fun v67 w67 _ _ _ => ?_)
  refine ee_put dD_init_69 lpiD_32 (ee_nRA _ _) (fun w69 _ => ?_)
  refine ee_aload_n 0 dD_init_72 rfl ?_
  refine ee_bipush (v := (40 : Int32)) dD_init_73 (by decide) ?_
  refine ee_newI dD_init_75 (fun v75 w75 _ _ _ => ?_)
  refine ee_put dD_init_77 lpiD_35 (ee_nRA _ _) (fun w77 _ => ?_)
  refine ee_aload_n 0 dD_init_80 rfl ?_
  refine ee_sipush (v := (12000 : Int32)) dD_init_81 (by decide) ?_
  refine ee_newI dD_init_84 (fun v84 w84 _ _ _ => ?_)
  refine ee_put dD_init_86 lpiD_38 (ee_nRA _ _) (fun w86 _ => ?_)
  refine ee_aload_n 0 dD_init_89 rfl ?_
  refine ee_bipush (v := (8 : Int32)) dD_init_90 (by decide) ?_
  refine ee_newZ dD_init_92 (fun v92 w92 _ _ _ => ?_)
  refine ee_put dD_init_94 lpiD_41 (ee_nRA _ _) (fun w94 _ => ?_)
  refine ee_aload_n 0 dD_init_97 rfl ?_
  refine ee_bipush (v := (8 : Int32)) dD_init_98 (by decide) ?_
  refine ee_newI dD_init_100 (fun v100 w100 _ _ _ => ?_)
  refine ee_put dD_init_102 lpiD_44 (ee_nRA _ _) (fun w102 _ => ?_)
  refine ee_aload_n 0 dD_init_105 rfl ?_
  refine ee_bipush (v := (8 : Int32)) dD_init_106 (by decide) ?_
  refine ee_newI dD_init_108 (fun v108 w108 _ _ _ => ?_)
  refine ee_put dD_init_110 lpiD_47 (ee_nRA _ _) (fun w110 _ => ?_)
  refine ee_aload_n 0 dD_init_113 rfl ?_
  refine ee_sipush (v := (320 : Int32)) dD_init_114 (by decide) ?_
  refine ee_newI dD_init_117 (fun v117 w117 _ _ _ => ?_)
  refine ee_put dD_init_119 lpiD_50 (ee_nRA _ _) (fun w119 _ => ?_)
  refine ee_aload_n 0 dD_init_122 rfl ?_
  refine ee_ldc (v := (40000 : Int32)) dD_init_123 gw_1158 ?_
  refine ee_newI dD_init_125 (fun v125 w125 _ _ _ => ?_)
  refine ee_put dD_init_127 lpiD_54 (ee_nRA _ _) (fun w127 _ => ?_)
  refine ee_aload_n 0 dD_init_130 rfl ?_
  refine ee_sipush (v := (20000 : Int32)) dD_init_131 (by decide) ?_
  refine ee_newI dD_init_134 (fun v134 w134 _ _ _ => ?_)
  refine ee_put dD_init_136 lpiD_57 (ee_nRA _ _) (fun w136 _ => ?_)
  refine ee_aload_n 0 dD_init_139 rfl ?_
  refine ee_sipush (v := (20000 : Int32)) dD_init_140 (by decide) ?_
  refine ee_newI dD_init_143 (fun v143 w143 _ _ _ => ?_)
  refine ee_put dD_init_145 lpiD_60 (ee_nRA _ _) (fun w145 _ => ?_)
  refine ee_aload_n 0 dD_init_148 rfl ?_
  refine ee_sipush (v := (2600 : Int32)) dD_init_149 (by decide) ?_
  refine ee_newI dD_init_152 (fun v152 w152 _ _ _ => ?_)
  refine ee_put dD_init_154 lpiD_63 (ee_nRA _ _) (fun w154 _ => ?_)
  refine ee_aload_n 0 dD_init_157 rfl ?_
  refine ee_sipush (v := (2600 : Int32)) dD_init_158 (by decide) ?_
  refine ee_newI dD_init_161 (fun v161 w161 _ _ _ => ?_)
  refine ee_put dD_init_163 lpiD_66 (ee_nRA _ _) (fun w163 _ => ?_)
  refine ee_aload_n 0 dD_init_166 rfl ?_
  refine ee_sipush (v := (300 : Int32)) dD_init_167 (by decide) ?_
  refine ee_newI dD_init_170 (fun v170 w170 _ _ _ => ?_)
  refine ee_put dD_init_172 lpiD_69 (ee_nRA _ _) (fun w172 _ => ?_)
  refine ee_aload_n 0 dD_init_175 rfl ?_
  refine ee_sipush (v := (300 : Int32)) dD_init_176 (by decide) ?_
  refine ee_newI dD_init_179 (fun v179 w179 _ _ _ => ?_)
  refine ee_put dD_init_181 lpiD_72 (ee_nRA _ _) (fun w181 _ => ?_)
  refine ee_aload_n 0 dD_init_184 rfl ?_
  refine ee_sipush (v := (300 : Int32)) dD_init_185 (by decide) ?_
  refine ee_newI dD_init_188 (fun v188 w188 _ _ _ => ?_)
  refine ee_put dD_init_190 lpiD_75 (ee_nRA _ _) (fun w190 _ => ?_)
  refine ee_aload_n 0 dD_init_193 rfl ?_
  refine ee_sipush (v := (300 : Int32)) dD_init_194 (by decide) ?_
  refine ee_newI dD_init_197 (fun v197 w197 _ _ _ => ?_)
  refine ee_put dD_init_199 lpiD_78 (ee_nRA _ _) (fun w199 _ => ?_)
  refine ee_aload_n 0 dD_init_202 rfl ?_
  refine ee_sipush (v := (300 : Int32)) dD_init_203 (by decide) ?_
  refine ee_newI dD_init_206 (fun v206 w206 _ _ _ => ?_)
  refine ee_put dD_init_208 lpiD_81 (ee_nRA _ _) (fun w208 _ => ?_)
  refine ee_aload_n 0 dD_init_211 rfl ?_
  refine ee_sipush (v := (300 : Int32)) dD_init_212 (by decide) ?_
  refine ee_newZ dD_init_215 (fun v215 w215 _ _ _ => ?_)
  refine ee_put dD_init_217 lpiD_84 (ee_nRA _ _) (fun w217 _ => ?_)
  refine ee_aload_n 0 dD_init_220 rfl ?_
  refine ee_sipush (v := (300 : Int32)) dD_init_221 (by decide) ?_
  refine ee_newZ dD_init_224 (fun v224 w224 _ _ _ => ?_)
  refine ee_put dD_init_226 lpiD_87 (ee_nRA _ _) (fun w226 _ => ?_)
  refine ee_aload_n 0 dD_init_229 rfl ?_
  refine ee_bipush (v := (24 : Int32)) dD_init_230 (by decide) ?_
  refine ee_newI dD_init_232 (fun v232 w232 _ _ _ => ?_)
  refine ee_put dD_init_234 lpiD_90 (ee_nRA _ _) (fun w234 _ => ?_)
  refine ee_aload_n 0 dD_init_237 rfl ?_
  refine ee_sipush (v := (200 : Int32)) dD_init_238 (by decide) ?_
  refine ee_newI dD_init_241 (fun v241 w241 _ _ _ => ?_)
  refine ee_put dD_init_243 lpiD_93 (ee_nRA _ _) (fun w243 _ => ?_)
  refine ee_aload_n 0 dD_init_246 rfl ?_
  refine ee_iload_n 1 dD_init_247 rfl ?_
  refine ee_iconst (v := (1 : Int32)) dD_init_248 (by decide) ?_
  refine ee_sipush (v := (2000 : Int32)) dD_init_249 (by decide) ?_
  refine ee_callS (as := [.int l1, .int (1 : Int32), .int (2000 : Int32)]) (st := [.ref l0]) dD_init_252 (t_fD_near l1 (1 : Int32) (2000 : Int32) w243) my_fD_near.1 (Nat.le_of_ble_eq_true rfl) my_fD_near.2 rfl gw_1159 gw_1160 ⟨Nat.le_of_ble_eq_true rfl, Nat.le_of_ble_eq_true rfl⟩ (Nat.le_of_ble_eq_true rfl) (fun rv252 w252 _ => ?_)
  refine ee_kI (fun v252 => ?_)
  refine ee_put dD_init_255 lpiD_100 (ee_nI _) (fun w255 _ => ?_)
  refine ee_aload_n 0 dD_init_258 rfl ?_
  refine ee_iload_n 2 dD_init_259 rfl ?_
  refine ee_iconst (v := (1 : Int32)) dD_init_260 (by decide) ?_
  refine ee_sipush (v := (2000 : Int32)) dD_init_261 (by decide) ?_
  refine ee_callS (as := [.int l2, .int (1 : Int32), .int (2000 : Int32)]) (st := [.ref l0]) dD_init_264 (t_fD_near l2 (1 : Int32) (2000 : Int32) w255) my_fD_near.1 (Nat.le_of_ble_eq_true rfl) my_fD_near.2 rfl gw_1159 gw_1160 ⟨Nat.le_of_ble_eq_true rfl, Nat.le_of_ble_eq_true rfl⟩ (Nat.le_of_ble_eq_true rfl) (fun rv264 w264 _ => ?_)
  refine ee_kI (fun v264 => ?_)
  refine ee_put dD_init_267 lpiD_104 (ee_nI _) (fun w267 _ => ?_)
  refine ee_aload_n 0 dD_init_270 rfl ?_
  refine ee_bind (fun _ ho271 => ?_)
  refine ee_callV (as := []) (st := []) dD_init_271 (t_fD_clear l0 w267) my_fD_clear.1 (Nat.le_of_ble_eq_true rfl) my_fD_clear.2 rfl cf_10.1 rfl (p_obj_eq.mp ho271) gw_1162 gw_1163 gw_1164 ⟨Nat.le_of_ble_eq_true rfl, Nat.le_of_ble_eq_true rfl⟩ (Nat.le_of_ble_eq_true rfl) (fun rv271 w271 _ => ?_)
  refine ee_kV ?_
  exact ee_vret rfl dD_init_274
def fD_thrown (l0 : Nat) (w : PW) : PX := (p_getI w l0 10 0).bind fun v1 => some (.inl (some (.int v1)), w)
set_option maxRecDepth 20000 in
set_option maxHeartbeats 2000000 in
theorem t_fD_thrown {Γ : PG} : ∀ (l0 : Nat) (w : PW), EE Γ MD_thrown 0 (lv_args 0 [.ref l0]) [] w (fD_thrown l0 w) := by
  intro l0 w
  unfold fD_thrown
  show EE Γ MD_thrown 0 [(0, .ref l0)] [] w _
  refine ee_aload_n 0 dD_thrown_0 rfl ?_
  refine ee_getI dD_thrown_1 lfD_110 (fun v1 _ => ?_)
  exact ee_iret rfl dD_thrown_4
def fD_in (l0 : Int64) (l2 : Int64) (l4 : Int64) (w : PW) : PX := if (lg_cmp l0 l2) < 0 then (p_retZ (0 : Int32) w) else (if 0 < (lg_cmp l0 l4) then (p_retZ (0 : Int32) w) else (p_retZ (1 : Int32) w))
set_option maxRecDepth 20000 in
set_option maxHeartbeats 2000000 in
theorem t_fD_in {Γ : PG} : ∀ (l0 : Int64) (l2 : Int64) (l4 : Int64) (w : PW), EE Γ MD_in 0 (lv_args 0 [.long l0, .long l2, .long l4]) [] w (fD_in l0 l2 l4 w) := by
  intro l0 l2 l4 w
  unfold fD_in
  show EE Γ MD_in 0 [(0, .long l0), (2, .long l2), (4, .long l4)] [] w _
  refine ee_lload_n 0 dD_in_0 rfl ?_
  refine ee_lload_n 1 dD_in_1 rfl ?_
  refine ee_lcmp dD_in_2 ?_
  refine ee_if_lt (tgt := 17) dD_in_3 (by decide) (fun h3 => ?_) (fun h3 => ?_)
  · refine ee_iconst (v := (0 : Int32)) dD_in_17 (by decide) ?_
    exact ee_zret rfl dD_in_18
  · refine ee_lload_n 0 dD_in_6 rfl ?_
    refine ee_lload 2 dD_in_7 rfl ?_
    refine ee_lcmp dD_in_9 ?_
    refine ee_if_gt (tgt := 17) dD_in_10 (by decide) (fun h10 => ?_) (fun h10 => ?_)
    · refine ee_iconst (v := (0 : Int32)) dD_in_17 (by decide) ?_
      exact ee_zret rfl dD_in_18
    · refine ee_iconst (v := (1 : Int32)) dD_in_13 (by decide) ?_
      refine ee_goto (tgt := 18) dD_in_14 (by decide) ?_
      exact ee_zret rfl dD_in_18
def fD_get (l0 : Nat) (l1 : Int32) (l2 : Int32) (w : PW) : PX := (p_getR w l0 10 3).bind fun v1 => (p_ald w v1 0 (((11 : Int32) * l1) + l2)).bind fun v10 => some (.inl (some (.int v10)), w)
set_option maxRecDepth 20000 in
set_option maxHeartbeats 2000000 in
theorem t_fD_get {Γ : PG} : ∀ (l0 : Nat) (l1 : Int32) (l2 : Int32) (w : PW), EE Γ MD_get 0 (lv_args 0 [.ref l0, .int l1, .int l2]) [] w (fD_get l0 l1 l2 w) := by
  intro l0 l1 l2 w
  unfold fD_get
  show EE Γ MD_get 0 [(0, .ref l0), (1, .int l1), (2, .int l2)] [] w _
  refine ee_aload_n 0 dD_get_0 rfl ?_
  refine ee_getR dD_get_1 lfD_7 (fun v1 _ => ?_)
  refine ee_bipush (v := (11 : Int32)) dD_get_4 (by decide) ?_
  refine ee_iload_n 1 dD_get_6 rfl ?_
  refine ee_imul dD_get_7 ?_
  refine ee_iload_n 2 dD_get_8 rfl ?_
  refine ee_iadd dD_get_9 ?_
  refine ee_iald (t := 0) dD_get_10 rfl (fun v10 _ => ?_)
  exact ee_iret rfl dD_get_11
def fD_placeOf (l0 : Int32) (l1 : Int32) (w : PW) : PX := some (.inl (some (.int ((((5 : Int32) * (l0 + (1 : Int32))) + l1) + (1 : Int32)))), w)
set_option maxRecDepth 20000 in
set_option maxHeartbeats 2000000 in
theorem t_fD_placeOf {Γ : PG} : ∀ (l0 : Int32) (l1 : Int32) (w : PW), EE Γ MD_placeOf 0 (lv_args 0 [.int l0, .int l1]) [] w (fD_placeOf l0 l1 w) := by
  intro l0 l1 w
  unfold fD_placeOf
  show EE Γ MD_placeOf 0 [(0, .int l0), (1, .int l1)] [] w _
  refine ee_iconst (v := (5 : Int32)) dD_placeOf_0 (by decide) ?_
  refine ee_iload_n 0 dD_placeOf_1 rfl ?_
  refine ee_iconst (v := (1 : Int32)) dD_placeOf_2 (by decide) ?_
  refine ee_iadd dD_placeOf_3 ?_
  refine ee_imul dD_placeOf_4 ?_
  refine ee_iload_n 1 dD_placeOf_5 rfl ?_
  refine ee_iadd dD_placeOf_6 ?_
  refine ee_iconst (v := (1 : Int32)) dD_placeOf_7 (by decide) ?_
  refine ee_iadd dD_placeOf_8 ?_
  exact ee_iret rfl dD_placeOf_9
def fD_isStep (l0 : Int32) (w : PW) : PX := if l0 = (9 : Int32) then (p_retZ (1 : Int32) w) else (if ¬ l0 = (10 : Int32) then (p_retZ (0 : Int32) w) else (p_retZ (1 : Int32) w))
set_option maxRecDepth 20000 in
set_option maxHeartbeats 2000000 in
theorem t_fD_isStep {Γ : PG} : ∀ (l0 : Int32) (w : PW), EE Γ MD_isStep 0 (lv_args 0 [.int l0]) [] w (fD_isStep l0 w) := by
  intro l0 w
  unfold fD_isStep
  show EE Γ MD_isStep 0 [(0, .int l0)] [] w _
  refine ee_iload_n 0 dD_isStep_0 rfl ?_
  refine ee_bipush (v := (9 : Int32)) dD_isStep_1 (by decide) ?_
  refine ee_icmp_eq (tgt := 12) dD_isStep_3 (by decide) (fun h3 => ?_) (fun h3 => ?_)
  · refine ee_iconst (v := (1 : Int32)) dD_isStep_12 (by decide) ?_
    refine ee_goto (tgt := 17) dD_isStep_13 (by decide) ?_
    exact ee_zret rfl dD_isStep_17
  · refine ee_iload_n 0 dD_isStep_6 rfl ?_
    refine ee_bipush (v := (10 : Int32)) dD_isStep_7 (by decide) ?_
    refine ee_icmp_ne (tgt := 16) dD_isStep_9 (by decide) (fun h9 => ?_) (fun h9 => ?_)
    · refine ee_iconst (v := (0 : Int32)) dD_isStep_16 (by decide) ?_
      exact ee_zret rfl dD_isStep_17
    · refine ee_iconst (v := (1 : Int32)) dD_isStep_12 (by decide) ?_
      refine ee_goto (tgt := 17) dD_isStep_13 (by decide) ?_
      exact ee_zret rfl dD_isStep_17
def fD_has (l0 : Nat) (l1 : Int32) (l2 : Int32) (w : PW) : PX := p_call (fD_isStep l2 w) <| p_kI fun v1 w1 => if v1 = 0 then ((p_getR w1 l0 10 4).bind fun v17 => (p_ald w1 v17 2 l1).bind fun v21 => p_retZ v21 w1) else ((p_getR w1 l0 10 5).bind fun v8 => (p_ald w1 v8 2 l1).bind fun v12 => p_retZ v12 w1)
set_option maxRecDepth 20000 in
set_option maxHeartbeats 2000000 in
theorem t_fD_has {Γ : PG} : ∀ (l0 : Nat) (l1 : Int32) (l2 : Int32) (w : PW), EE Γ MD_has 0 (lv_args 0 [.ref l0, .int l1, .int l2]) [] w (fD_has l0 l1 l2 w) := by
  intro l0 l1 l2 w
  unfold fD_has
  show EE Γ MD_has 0 [(0, .ref l0), (1, .int l1), (2, .int l2)] [] w _
  refine ee_iload_n 2 dD_has_0 rfl ?_
  refine ee_callS (as := [.int l2]) (st := []) dD_has_1 (t_fD_isStep l2 w) my_fD_isStep.1 (Nat.le_of_ble_eq_true rfl) my_fD_isStep.2 rfl gw_1363 gw_1364 ⟨Nat.le_of_ble_eq_true rfl, Nat.le_of_ble_eq_true rfl⟩ (Nat.le_of_ble_eq_true rfl) (fun rv1 w1 _ => ?_)
  refine ee_kI (fun v1 => ?_)
  refine ee_if_eq (tgt := 16) dD_has_4 (by decide) (fun h4 => ?_) (fun h4 => ?_)
  · refine ee_aload_n 0 dD_has_16 rfl ?_
    refine ee_getR dD_has_17 lfD_13 (fun v17 _ => ?_)
    refine ee_iload_n 1 dD_has_20 rfl ?_
    refine ee_zald (t := 2) dD_has_21 rfl (fun v21 _ => ?_)
    exact ee_zret rfl dD_has_22
  · refine ee_aload_n 0 dD_has_7 rfl ?_
    refine ee_getR dD_has_8 lfD_17 (fun v8 _ => ?_)
    refine ee_iload_n 1 dD_has_11 rfl ?_
    refine ee_zald (t := 2) dD_has_12 rfl (fun v12 _ => ?_)
    refine ee_goto (tgt := 22) dD_has_13 (by decide) ?_
    exact ee_zret rfl dD_has_22
def fD_force_52 (l0 : Nat) (l1 : Int32) (l2 : Int32) (l4 : Int32) (w : PW) : PX := if l4 < 0 then (some (.inl (some (.int l1)), w)) else (p_call (fD_placeOf (-1 : Int32) l4 w) <| p_kI fun v62 w62 => (p_obj w62 l0 10).bind fun _ => p_call (fD_has l0 (l1 + v62) l2 w62) <| p_kI fun v67 w67 => if v67 = 0 then (some (.inl (some (.int l1)), w67)) else (p_call (fD_placeOf (-1 : Int32) l4 w67) <| p_kI fun v77 w77 => some (.inl (some (.int (l1 + v77))), w77)))
set_option maxRecDepth 20000 in
set_option maxHeartbeats 2000000 in
theorem t_fD_force_52 {Γ : PG} : ∀ (l0 : Nat) (l1 : Int32) (l2 : Int32) (l4 : Int32) (w : PW), EE Γ MD_force 52 [(0, .ref l0), (1, .int l1), (2, .int l2), (4, .int l4)] [] w (fD_force_52 l0 l1 l2 l4 w) := by
  intro l0 l1 l2 l4 w
  unfold fD_force_52
  refine ee_iload 3 dD_force_52 rfl ?_
  refine ee_if_lt (tgt := 84) dD_force_54 (by decide) (fun h54 => ?_) (fun h54 => ?_)
  · refine ee_iload_n 1 dD_force_84 rfl ?_
    exact ee_iret rfl dD_force_85
  · refine ee_aload_n 0 dD_force_57 rfl ?_
    refine ee_iload_n 1 dD_force_58 rfl ?_
    refine ee_iconst (v := (-1 : Int32)) dD_force_59 (by decide) ?_
    refine ee_iload 3 dD_force_60 rfl ?_
    refine ee_callS (as := [.int (-1 : Int32), .int l4]) (st := [.int l1, .ref l0]) dD_force_62 (t_fD_placeOf (-1 : Int32) l4 w) my_fD_placeOf.1 (Nat.le_of_ble_eq_true rfl) my_fD_placeOf.2 rfl gw_1356 gw_1357 ⟨Nat.le_of_ble_eq_true rfl, Nat.le_of_ble_eq_true rfl⟩ (Nat.le_of_ble_eq_true rfl) (fun rv62 w62 _ => ?_)
    refine ee_kI (fun v62 => ?_)
    refine ee_iadd dD_force_65 ?_
    refine ee_iload_n 2 dD_force_66 rfl ?_
    refine ee_bind (fun _ ho67 => ?_)
    refine ee_callV (as := [.int (l1 + v62), .int l2]) (st := []) dD_force_67 (t_fD_has l0 (l1 + v62) l2 w62) my_fD_has.1 (Nat.le_of_ble_eq_true rfl) my_fD_has.2 rfl cf_10.1 rfl (p_obj_eq.mp ho67) gw_1359 gw_1361 gw_15 ⟨Nat.le_of_ble_eq_true rfl, Nat.le_of_ble_eq_true rfl⟩ (Nat.le_of_ble_eq_true rfl) (fun rv67 w67 _ => ?_)
    refine ee_kI (fun v67 => ?_)
    refine ee_if_eq (tgt := 84) dD_force_70 (by decide) (fun h70 => ?_) (fun h70 => ?_)
    · refine ee_iload_n 1 dD_force_84 rfl ?_
      exact ee_iret rfl dD_force_85
    · refine ee_iload_n 1 dD_force_73 rfl ?_
      refine ee_iconst (v := (-1 : Int32)) dD_force_74 (by decide) ?_
      refine ee_iload 3 dD_force_75 rfl ?_
      refine ee_callS (as := [.int (-1 : Int32), .int l4]) (st := [.int l1]) dD_force_77 (t_fD_placeOf (-1 : Int32) l4 w67) my_fD_placeOf.1 (Nat.le_of_ble_eq_true rfl) my_fD_placeOf.2 rfl gw_1356 gw_1357 ⟨Nat.le_of_ble_eq_true rfl, Nat.le_of_ble_eq_true rfl⟩ (Nat.le_of_ble_eq_true rfl) (fun rv77 w77 _ => ?_)
      refine ee_kI (fun v77 => ?_)
      refine ee_iadd dD_force_80 ?_
      refine ee_goto (tgt := 85) dD_force_81 (by decide) ?_
      exact ee_iret rfl dD_force_85
def fD_force (l0 : Nat) (l1 : Int32) (l2 : Int32) (l3 : Int32) (l4 : Int32) (w : PW) : PX := p_call (fD_placeOf l3 l4 w) <| p_kI fun v5 w5 => (p_obj w5 l0 10).bind fun _ => p_call (fD_has l0 (l1 + v5) l2 w5) <| p_kI fun v10 w10 => if v10 = 0 then (if l3 < 0 then (fD_force_52 l0 l1 l2 l4 w10) else (p_call (fD_placeOf l3 (-1 : Int32) w10) <| p_kI fun v33 w33 => (p_obj w33 l0 10).bind fun _ => p_call (fD_has l0 (l1 + v33) l2 w33) <| p_kI fun v38 w38 => if v38 = 0 then (fD_force_52 l0 l1 l2 l4 w38) else (p_call (fD_placeOf l3 (-1 : Int32) w38) <| p_kI fun v47 w47 => some (.inl (some (.int (l1 + v47))), w47)))) else (p_call (fD_placeOf l3 l4 w10) <| p_kI fun v20 w20 => some (.inl (some (.int (l1 + v20))), w20))
set_option maxRecDepth 20000 in
set_option maxHeartbeats 2000000 in
theorem t_fD_force {Γ : PG} : ∀ (l0 : Nat) (l1 : Int32) (l2 : Int32) (l3 : Int32) (l4 : Int32) (w : PW), EE Γ MD_force 0 (lv_args 0 [.ref l0, .int l1, .int l2, .int l3, .int l4]) [] w (fD_force l0 l1 l2 l3 l4 w) := by
  intro l0 l1 l2 l3 l4 w
  unfold fD_force
  show EE Γ MD_force 0 [(0, .ref l0), (1, .int l1), (2, .int l2), (3, .int l3), (4, .int l4)] [] w _
  refine ee_aload_n 0 dD_force_0 rfl ?_
  refine ee_iload_n 1 dD_force_1 rfl ?_
  refine ee_iload_n 3 dD_force_2 rfl ?_
  refine ee_iload 4 dD_force_3 rfl ?_
  refine ee_callS (as := [.int l3, .int l4]) (st := [.int l1, .ref l0]) dD_force_5 (t_fD_placeOf l3 l4 w) my_fD_placeOf.1 (Nat.le_of_ble_eq_true rfl) my_fD_placeOf.2 rfl gw_1356 gw_1357 ⟨Nat.le_of_ble_eq_true rfl, Nat.le_of_ble_eq_true rfl⟩ (Nat.le_of_ble_eq_true rfl) (fun rv5 w5 _ => ?_)
  refine ee_kI (fun v5 => ?_)
  refine ee_iadd dD_force_8 ?_
  refine ee_iload_n 2 dD_force_9 rfl ?_
  refine ee_bind (fun _ ho10 => ?_)
  refine ee_callV (as := [.int (l1 + v5), .int l2]) (st := []) dD_force_10 (t_fD_has l0 (l1 + v5) l2 w5) my_fD_has.1 (Nat.le_of_ble_eq_true rfl) my_fD_has.2 rfl cf_10.1 rfl (p_obj_eq.mp ho10) gw_1359 gw_1361 gw_15 ⟨Nat.le_of_ble_eq_true rfl, Nat.le_of_ble_eq_true rfl⟩ (Nat.le_of_ble_eq_true rfl) (fun rv10 w10 _ => ?_)
  refine ee_kI (fun v10 => ?_)
  refine ee_if_eq (tgt := 25) dD_force_13 (by decide) (fun h13 => ?_) (fun h13 => ?_)
  · refine ee_iload_n 3 dD_force_25 rfl ?_
    refine ee_if_lt (tgt := 52) dD_force_26 (by decide) (fun h26 => ?_) (fun h26 => ?_)
    · refine ee_pick [0, 1, 2, 4] rfl ?_
      exact t_fD_force_52 _ _ _ _ w10
    · refine ee_aload_n 0 dD_force_29 rfl ?_
      refine ee_iload_n 1 dD_force_30 rfl ?_
      refine ee_iload_n 3 dD_force_31 rfl ?_
      refine ee_iconst (v := (-1 : Int32)) dD_force_32 (by decide) ?_
      refine ee_callS (as := [.int l3, .int (-1 : Int32)]) (st := [.int l1, .ref l0]) dD_force_33 (t_fD_placeOf l3 (-1 : Int32) w10) my_fD_placeOf.1 (Nat.le_of_ble_eq_true rfl) my_fD_placeOf.2 rfl gw_1356 gw_1357 ⟨Nat.le_of_ble_eq_true rfl, Nat.le_of_ble_eq_true rfl⟩ (Nat.le_of_ble_eq_true rfl) (fun rv33 w33 _ => ?_)
      refine ee_kI (fun v33 => ?_)
      refine ee_iadd dD_force_36 ?_
      refine ee_iload_n 2 dD_force_37 rfl ?_
      refine ee_bind (fun _ ho38 => ?_)
      refine ee_callV (as := [.int (l1 + v33), .int l2]) (st := []) dD_force_38 (t_fD_has l0 (l1 + v33) l2 w33) my_fD_has.1 (Nat.le_of_ble_eq_true rfl) my_fD_has.2 rfl cf_10.1 rfl (p_obj_eq.mp ho38) gw_1359 gw_1361 gw_15 ⟨Nat.le_of_ble_eq_true rfl, Nat.le_of_ble_eq_true rfl⟩ (Nat.le_of_ble_eq_true rfl) (fun rv38 w38 _ => ?_)
      refine ee_kI (fun v38 => ?_)
      refine ee_if_eq (tgt := 52) dD_force_41 (by decide) (fun h41 => ?_) (fun h41 => ?_)
      · refine ee_pick [0, 1, 2, 4] rfl ?_
        exact t_fD_force_52 _ _ _ _ w38
      · refine ee_iload_n 1 dD_force_44 rfl ?_
        refine ee_iload_n 3 dD_force_45 rfl ?_
        refine ee_iconst (v := (-1 : Int32)) dD_force_46 (by decide) ?_
        refine ee_callS (as := [.int l3, .int (-1 : Int32)]) (st := [.int l1]) dD_force_47 (t_fD_placeOf l3 (-1 : Int32) w38) my_fD_placeOf.1 (Nat.le_of_ble_eq_true rfl) my_fD_placeOf.2 rfl gw_1356 gw_1357 ⟨Nat.le_of_ble_eq_true rfl, Nat.le_of_ble_eq_true rfl⟩ (Nat.le_of_ble_eq_true rfl) (fun rv47 w47 _ => ?_)
        refine ee_kI (fun v47 => ?_)
        refine ee_iadd dD_force_50 ?_
        exact ee_iret rfl dD_force_51
  · refine ee_iload_n 1 dD_force_16 rfl ?_
    refine ee_iload_n 3 dD_force_17 rfl ?_
    refine ee_iload 4 dD_force_18 rfl ?_
    refine ee_callS (as := [.int l3, .int l4]) (st := [.int l1]) dD_force_20 (t_fD_placeOf l3 l4 w10) my_fD_placeOf.1 (Nat.le_of_ble_eq_true rfl) my_fD_placeOf.2 rfl gw_1356 gw_1357 ⟨Nat.le_of_ble_eq_true rfl, Nat.le_of_ble_eq_true rfl⟩ (Nat.le_of_ble_eq_true rfl) (fun rv20 w20 _ => ?_)
    refine ee_kI (fun v20 => ?_)
    refine ee_iadd dD_force_23 ?_
    exact ee_iret rfl dD_force_24
def fD_tilesOf (l0 : Int64) (l2 : Int64) (l4 : Int64) (l6 : Int64) (w : PW) : PX := (p_ldiv ((l0 + l4) - (1 : Int64)) l4).bind fun v8 => (p_ldiv ((l2 + l6) - (1 : Int64)) l6).bind fun v17 => some (.inl (some (.long (v8 * v17))), w)
set_option maxRecDepth 20000 in
set_option maxHeartbeats 2000000 in
theorem t_fD_tilesOf {Γ : PG} : ∀ (l0 : Int64) (l2 : Int64) (l4 : Int64) (l6 : Int64) (w : PW), EE Γ MD_tilesOf 0 (lv_args 0 [.long l0, .long l2, .long l4, .long l6]) [] w (fD_tilesOf l0 l2 l4 l6 w) := by
  intro l0 l2 l4 l6 w
  unfold fD_tilesOf
  show EE Γ MD_tilesOf 0 [(0, .long l0), (2, .long l2), (4, .long l4), (6, .long l6)] [] w _
  refine ee_lload_n 0 dD_tilesOf_0 rfl ?_
  refine ee_lload 2 dD_tilesOf_1 rfl ?_
  refine ee_ladd dD_tilesOf_3 ?_
  refine ee_lconst (v := (1 : Int64)) dD_tilesOf_4 (by decide) ?_
  refine ee_lsub dD_tilesOf_5 ?_
  refine ee_lload 2 dD_tilesOf_6 rfl ?_
  refine ee_ldiv dD_tilesOf_8 (fun v8 _ => ?_)
  refine ee_lload_n 1 dD_tilesOf_9 rfl ?_
  refine ee_lload 3 dD_tilesOf_10 rfl ?_
  refine ee_ladd dD_tilesOf_12 ?_
  refine ee_lconst (v := (1 : Int64)) dD_tilesOf_13 (by decide) ?_
  refine ee_lsub dD_tilesOf_14 ?_
  refine ee_lload 3 dD_tilesOf_15 rfl ?_
  refine ee_ldiv dD_tilesOf_17 (fun v17 _ => ?_)
  refine ee_lmul dD_tilesOf_18 ?_
  exact ee_lret rfl dD_tilesOf_19
def fD_tiles (l0 : Nat) (l1 : Int32) (w : PW) : PX := (p_getR w l0 10 7).bind fun v1 => (p_ald w v1 0 l1).bind fun v5 => (p_getR w l0 10 7).bind fun v8 => (p_ald w v8 0 (l1 + (1 : Int32))).bind fun v14 => (p_getR w l0 10 7).bind fun v17 => (p_ald w v17 0 (l1 + (3 : Int32))).bind fun v23 => (p_getR w l0 10 7).bind fun v26 => (p_ald w v26 0 (l1 + (4 : Int32))).bind fun v32 => p_call (fD_tilesOf (Int32.toInt64 v5) (Int32.toInt64 v14) (Int32.toInt64 v23) (Int32.toInt64 v32) w) <| p_kJ fun v34 w34 => some (.inl (some (.int (Int64.toInt32 v34))), w34)
set_option maxRecDepth 20000 in
set_option maxHeartbeats 2000000 in
theorem t_fD_tiles {Γ : PG} : ∀ (l0 : Nat) (l1 : Int32) (w : PW), EE Γ MD_tiles 0 (lv_args 0 [.ref l0, .int l1]) [] w (fD_tiles l0 l1 w) := by
  intro l0 l1 w
  unfold fD_tiles
  show EE Γ MD_tiles 0 [(0, .ref l0), (1, .int l1)] [] w _
  refine ee_aload_n 0 dD_tiles_0 rfl ?_
  refine ee_getR dD_tiles_1 lfD_23 (fun v1 _ => ?_)
  refine ee_iload_n 1 dD_tiles_4 rfl ?_
  refine ee_iald (t := 0) dD_tiles_5 rfl (fun v5 _ => ?_)
  refine ee_i2l dD_tiles_6 ?_
  refine ee_aload_n 0 dD_tiles_7 rfl ?_
  refine ee_getR dD_tiles_8 lfD_23 (fun v8 _ => ?_)
  refine ee_iload_n 1 dD_tiles_11 rfl ?_
  refine ee_iconst (v := (1 : Int32)) dD_tiles_12 (by decide) ?_
  refine ee_iadd dD_tiles_13 ?_
  refine ee_iald (t := 0) dD_tiles_14 rfl (fun v14 _ => ?_)
  refine ee_i2l dD_tiles_15 ?_
  refine ee_aload_n 0 dD_tiles_16 rfl ?_
  refine ee_getR dD_tiles_17 lfD_23 (fun v17 _ => ?_)
  refine ee_iload_n 1 dD_tiles_20 rfl ?_
  refine ee_iconst (v := (3 : Int32)) dD_tiles_21 (by decide) ?_
  refine ee_iadd dD_tiles_22 ?_
  refine ee_iald (t := 0) dD_tiles_23 rfl (fun v23 _ => ?_)
  refine ee_i2l dD_tiles_24 ?_
  refine ee_aload_n 0 dD_tiles_25 rfl ?_
  refine ee_getR dD_tiles_26 lfD_23 (fun v26 _ => ?_)
  refine ee_iload_n 1 dD_tiles_29 rfl ?_
  refine ee_iconst (v := (4 : Int32)) dD_tiles_30 (by decide) ?_
  refine ee_iadd dD_tiles_31 ?_
  refine ee_iald (t := 0) dD_tiles_32 rfl (fun v32 _ => ?_)
  refine ee_i2l dD_tiles_33 ?_
  refine ee_callS (as := [.long (Int32.toInt64 v5), .long (Int32.toInt64 v14), .long (Int32.toInt64 v23), .long (Int32.toInt64 v32)]) (st := []) dD_tiles_34 (t_fD_tilesOf (Int32.toInt64 v5) (Int32.toInt64 v14) (Int32.toInt64 v23) (Int32.toInt64 v32) w) my_fD_tilesOf.1 (Nat.le_of_ble_eq_true rfl) my_fD_tilesOf.2 rfl gw_1328 gw_1329 ⟨Nat.le_of_ble_eq_true rfl, Nat.le_of_ble_eq_true rfl⟩ (Nat.le_of_ble_eq_true rfl) (fun rv34 w34 _ => ?_)
  refine ee_kJ (fun v34 => ?_)
  refine ee_l2i dD_tiles_37 ?_
  exact ee_iret rfl dD_tiles_38
