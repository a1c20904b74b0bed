def fWriter_begin (l0 : Nat) (w : PW) : PX := (p_getR w l0 9 0).bind fun v1 => (p_put w v1 2 2 (.int (0 : Int32))).bind fun w5 => some (.inl none, w5)
set_option maxRecDepth 20000 in
set_option maxHeartbeats 2000000 in
theorem t_fWriter_begin {Γ : PG} : ∀ (l0 : Nat) (w : PW), EE Γ MWriter_begin 0 (lv_args 0 [.ref l0]) [] w (fWriter_begin l0 w) := by
  intro l0 w
  unfold fWriter_begin
  show EE Γ MWriter_begin 0 [(0, .ref l0)] [] w _
  refine ee_aload_n 0 dWriter_begin_0 rfl ?_
  refine ee_getR dWriter_begin_1 lfWriter_14 (fun v1 _ => ?_)
  refine ee_iconst (v := (0 : Int32)) dWriter_begin_4 (by decide) ?_
  refine ee_put dWriter_begin_5 lpWriter_20 (ee_nI _) (fun w5 _ => ?_)
  exact ee_vret rfl dWriter_begin_8
def fWriter_openBox (l0 : Nat) (l1 : Int32) (w : PW) : PX := (p_getR w l0 9 0).bind fun v1 => (p_getI w v1 2 2).bind fun v4 => (p_getR w l0 9 0).bind fun v9 => (p_obj w v9 2).bind fun _ => p_call (fBytes_appendNumber v9 (0 : Int32) (4 : Int32) w) <| p_kV fun w14 => (p_getR w14 l0 9 0).bind fun v18 => (p_obj w14 v18 2).bind fun _ => p_call (fBytes_appendNumber v18 l1 (4 : Int32) w14) <| p_kV fun w23 => some (.inl (some (.int v4)), w23)
set_option maxRecDepth 20000 in
set_option maxHeartbeats 2000000 in
theorem t_fWriter_openBox {Γ : PG} : ∀ (l0 : Nat) (l1 : Int32) (w : PW), EE Γ MWriter_openBox 0 (lv_args 0 [.ref l0, .int l1]) [] w (fWriter_openBox l0 l1 w) := by
  intro l0 l1 w
  unfold fWriter_openBox
  show EE Γ MWriter_openBox 0 [(0, .ref l0), (1, .int l1)] [] w _
  refine ee_aload_n 0 dWriter_openBox_0 rfl ?_
  refine ee_getR dWriter_openBox_1 lfWriter_14 (fun v1 _ => ?_)
  refine ee_getI dWriter_openBox_4 lfWriter_20 (fun v4 _ => ?_)
  refine ee_istore_n (lv2 := [(2, .int v4), (0, .ref l0), (1, .int l1)]) dWriter_openBox_7 (Nat.le_of_ble_eq_true rfl) rfl ?_
  refine ee_aload_n 1 dWriter_openBox_8 rfl ?_
  refine ee_getR dWriter_openBox_9 lfWriter_14 (fun v9 _ => ?_)
  refine ee_iconst (v := (0 : Int32)) dWriter_openBox_12 (by decide) ?_
  refine ee_iconst (v := (4 : Int32)) dWriter_openBox_13 (by decide) ?_
  refine ee_bind (fun _ ho14 => ?_)
  refine ee_callV (as := [.int (0 : Int32), .int (4 : Int32)]) (st := []) dWriter_openBox_14 (t_fBytes_appendNumber v9 (0 : Int32) (4 : Int32) w) my_fBytes_appendNumber.1 (Nat.le_of_ble_eq_true rfl) my_fBytes_appendNumber.2 rfl cf_2.1 rfl (p_obj_eq.mp ho14) gw_373 gw_374 gw_375 ⟨Nat.le_of_ble_eq_true rfl, Nat.le_of_ble_eq_true rfl⟩ (Nat.le_of_ble_eq_true rfl) (fun rv14 w14 _ => ?_)
  refine ee_kV ?_
  refine ee_aload_n 1 dWriter_openBox_17 rfl ?_
  refine ee_getR dWriter_openBox_18 lfWriter_14 (fun v18 _ => ?_)
  refine ee_iload_n 2 dWriter_openBox_21 rfl ?_
  refine ee_iconst (v := (4 : Int32)) dWriter_openBox_22 (by decide) ?_
  refine ee_bind (fun _ ho23 => ?_)
  refine ee_callV (as := [.int l1, .int (4 : Int32)]) (st := []) dWriter_openBox_23 (t_fBytes_appendNumber v18 l1 (4 : Int32) w14) my_fBytes_appendNumber.1 (Nat.le_of_ble_eq_true rfl) my_fBytes_appendNumber.2 rfl cf_2.1 rfl (p_obj_eq.mp ho23) gw_373 gw_374 gw_375 ⟨Nat.le_of_ble_eq_true rfl, Nat.le_of_ble_eq_true rfl⟩ (Nat.le_of_ble_eq_true rfl) (fun rv23 w23 _ => ?_)
  refine ee_kV ?_
  refine ee_iload_n 0 dWriter_openBox_26 rfl ?_
  exact ee_iret rfl dWriter_openBox_27
def fWriter_closeBox (l0 : Nat) (l1 : Int32) (w : PW) : PX := (p_getR w l0 9 0).bind fun v1 => (p_getR w l0 9 0).bind fun v6 => (p_getI w v6 2 2).bind fun v9 => (p_obj w v1 2).bind fun _ => p_call (fBytes_putNumber4 v1 l1 (v9 - l1) w) <| p_kV fun w14 => some (.inl none, w14)
set_option maxRecDepth 20000 in
set_option maxHeartbeats 2000000 in
theorem t_fWriter_closeBox {Γ : PG} : ∀ (l0 : Nat) (l1 : Int32) (w : PW), EE Γ MWriter_closeBox 0 (lv_args 0 [.ref l0, .int l1]) [] w (fWriter_closeBox l0 l1 w) := by
  intro l0 l1 w
  unfold fWriter_closeBox
  show EE Γ MWriter_closeBox 0 [(0, .ref l0), (1, .int l1)] [] w _
  refine ee_aload_n 0 dWriter_closeBox_0 rfl ?_
  refine ee_getR dWriter_closeBox_1 lfWriter_14 (fun v1 _ => ?_)
  refine ee_iload_n 1 dWriter_closeBox_4 rfl ?_
  refine ee_aload_n 0 dWriter_closeBox_5 rfl ?_
  refine ee_getR dWriter_closeBox_6 lfWriter_14 (fun v6 _ => ?_)
  refine ee_getI dWriter_closeBox_9 lfWriter_20 (fun v9 _ => ?_)
  refine ee_iload_n 1 dWriter_closeBox_12 rfl ?_
  refine ee_isub dWriter_closeBox_13 ?_
  refine ee_bind (fun _ ho14 => ?_)
  refine ee_callV (as := [.int l1, .int (v9 - l1)]) (st := []) dWriter_closeBox_14 (t_fBytes_putNumber4 v1 l1 (v9 - l1) w) my_fBytes_putNumber4.1 (Nat.le_of_ble_eq_true rfl) my_fBytes_putNumber4.2 rfl cf_2.1 rfl (p_obj_eq.mp ho14) gw_401 gw_402 gw_403 ⟨Nat.le_of_ble_eq_true rfl, Nat.le_of_ble_eq_true rfl⟩ (Nat.le_of_ble_eq_true rfl) (fun rv14 w14 _ => ?_)
  refine ee_kV ?_
  exact ee_vret rfl dWriter_closeBox_17
def fWriter_pictureHeader_4 : Nat → Nat → Nat → Int32 → Int32 → PW → PX
  | 0, _, _, _, _, _ => none
  | n9 + 1, l0, l1, l2, l3, w => (p_getR w l1 7 0).bind fun v6 => (p_ald w v6 0 (2 : Int32)).bind fun v10 => if v10 ≤ l3 then ((p_obj w l0 9).bind fun _ => p_call (fWriter_openBox l0 (1768449138 : Int32) w) <| p_kI fun v35 w35 => (p_getR w35 l0 9 0).bind fun v40 => (p_getR w35 l1 7 0).bind fun v44 => (p_ald w35 v44 0 (1 : Int32)).bind fun v48 => (p_obj w35 v40 2).bind fun _ => p_call (fBytes_appendNumber v40 v48 (4 : Int32) w35) <| p_kV fun w50 => (p_getR w50 l0 9 0).bind fun v54 => (p_getR w50 l1 7 0).bind fun v58 => (p_ald w50 v58 0 (0 : Int32)).bind fun v62 => (p_obj w50 v54 2).bind fun _ => p_call (fBytes_appendNumber v54 v62 (4 : Int32) w50) <| p_kV fun w64 => (p_getR w64 l0 9 0).bind fun v68 => (p_getR w64 l1 7 0).bind fun v72 => (p_ald w64 v72 0 (2 : Int32)).bind fun v76 => (p_obj w64 v68 2).bind fun _ => p_call (fBytes_appendNumber v68 v76 (2 : Int32) w64) <| p_kV fun w78 => (p_getR w78 l0 9 0).bind fun v82 => (p_obj w78 v82 2).bind fun _ => p_call (fBytes_append v82 (l2 - (1 : Int32)) w78) <| p_kI fun v88 w88 => (p_getR w88 l0 9 0).bind fun v93 => (p_obj w88 v93 2).bind fun _ => p_call (fBytes_append v93 (7 : Int32) w88) <| p_kI fun v98 w98 => (p_getR w98 l0 9 0).bind fun v103 => (p_obj w98 v103 2).bind fun _ => p_call (fBytes_appendNumber v103 (0 : Int32) (2 : Int32) w98) <| p_kV fun w108 => (p_obj w108 l0 9).bind fun _ => p_call (fWriter_closeBox l0 v35 w108) <| p_kV fun w113 => some (.inl none, w113)) else ((p_obj w l1 7).bind fun _ => p_call (fSettings_valueOf l1 (3 : Int32) (-1 : Int32) l3 w) <| p_kI fun v19 w19 => p_let ((p_max l2 v19)) fun (l2_25 : Int32) => p_let (l3 + (1 : Int32)) fun (l3_26 : Int32) => (fWriter_pictureHeader_4 n9) l0 l1 l2_25 l3_26 w19)
set_option maxRecDepth 20000 in
set_option maxHeartbeats 2000000 in
theorem t_fWriter_pictureHeader_4 {Γ : PG} : ∀ (n9 : Nat) (l0 : Nat) (l1 : Nat) (l2 : Int32) (l3 : Int32) (w : PW), EE Γ MWriter_pictureHeader 4 [(0, .ref l0), (1, .ref l1), (2, .int l2), (3, .int l3)] [] w (fWriter_pictureHeader_4 n9 l0 l1 l2 l3 w) := by
  intro n9
  induction n9 with
  | zero => intro l0 l1 l2 l3 w; exact ee_none
  | succ n9 ih =>
    intro l0 l1 l2 l3 w
    unfold fWriter_pictureHeader_4
    refine ee_iload_n 3 dWriter_pictureHeader_4 rfl ?_
    refine ee_aload_n 1 dWriter_pictureHeader_5 rfl ?_
    refine ee_getR dWriter_pictureHeader_6 lfWriter_51 (fun v6 _ => ?_)
    refine ee_iconst (v := (2 : Int32)) dWriter_pictureHeader_9 (by decide) ?_
    refine ee_iald (t := 0) dWriter_pictureHeader_10 rfl (fun v10 _ => ?_)
    refine ee_icmp_ge (tgt := 32) dWriter_pictureHeader_11 (by decide) (fun h11 => ?_) (fun h11 => ?_)
    · refine ee_aload_n 0 dWriter_pictureHeader_32 rfl ?_
      refine ee_ldc (v := (1768449138 : Int32)) dWriter_pictureHeader_33 gw_429 ?_
      refine ee_bind (fun _ ho35 => ?_)
      refine ee_callV (as := [.int (1768449138 : Int32)]) (st := []) dWriter_pictureHeader_35 (t_fWriter_openBox l0 (1768449138 : Int32) w) my_fWriter_openBox.1 (Nat.le_of_ble_eq_true rfl) my_fWriter_openBox.2 rfl cf_9.1 rfl (p_obj_eq.mp ho35) gw_369 gw_370 gw_371 ⟨Nat.le_of_ble_eq_true rfl, Nat.le_of_ble_eq_true rfl⟩ (Nat.le_of_ble_eq_true rfl) (fun rv35 w35 _ => ?_)
      refine ee_kI (fun v35 => ?_)
      refine ee_istore_n (lv2 := [(3, .int v35), (0, .ref l0), (1, .ref l1), (2, .int l2)]) dWriter_pictureHeader_38 (Nat.le_of_ble_eq_true rfl) rfl ?_
      refine ee_aload_n 1 dWriter_pictureHeader_39 rfl ?_
      refine ee_getR dWriter_pictureHeader_40 lfWriter_14 (fun v40 _ => ?_)
      refine ee_aload_n 2 dWriter_pictureHeader_43 rfl ?_
      refine ee_getR dWriter_pictureHeader_44 lfWriter_51 (fun v44 _ => ?_)
      refine ee_iconst (v := (1 : Int32)) dWriter_pictureHeader_47 (by decide) ?_
      refine ee_iald (t := 0) dWriter_pictureHeader_48 rfl (fun v48 _ => ?_)
      refine ee_iconst (v := (4 : Int32)) dWriter_pictureHeader_49 (by decide) ?_
      refine ee_bind (fun _ ho50 => ?_)
      refine ee_callV (as := [.int v48, .int (4 : Int32)]) (st := []) dWriter_pictureHeader_50 (t_fBytes_appendNumber v40 v48 (4 : Int32) w35) my_fBytes_appendNumber.1 (Nat.le_of_ble_eq_true rfl) my_fBytes_appendNumber.2 rfl cf_2.1 rfl (p_obj_eq.mp ho50) gw_373 gw_374 gw_375 ⟨Nat.le_of_ble_eq_true rfl, Nat.le_of_ble_eq_true rfl⟩ (Nat.le_of_ble_eq_true rfl) (fun rv50 w50 _ => ?_)
      refine ee_kV ?_
      refine ee_aload_n 1 dWriter_pictureHeader_53 rfl ?_
      refine ee_getR dWriter_pictureHeader_54 lfWriter_14 (fun v54 _ => ?_)
      refine ee_aload_n 2 dWriter_pictureHeader_57 rfl ?_
      refine ee_getR dWriter_pictureHeader_58 lfWriter_51 (fun v58 _ => ?_)
      refine ee_iconst (v := (0 : Int32)) dWriter_pictureHeader_61 (by decide) ?_
      refine ee_iald (t := 0) dWriter_pictureHeader_62 rfl (fun v62 _ => ?_)
      refine ee_iconst (v := (4 : Int32)) dWriter_pictureHeader_63 (by decide) ?_
      refine ee_bind (fun _ ho64 => ?_)
      refine ee_callV (as := [.int v62, .int (4 : Int32)]) (st := []) dWriter_pictureHeader_64 (t_fBytes_appendNumber v54 v62 (4 : Int32) w50) my_fBytes_appendNumber.1 (Nat.le_of_ble_eq_true rfl) my_fBytes_appendNumber.2 rfl cf_2.1 rfl (p_obj_eq.mp ho64) gw_373 gw_374 gw_375 ⟨Nat.le_of_ble_eq_true rfl, Nat.le_of_ble_eq_true rfl⟩ (Nat.le_of_ble_eq_true rfl) (fun rv64 w64 _ => ?_)
      refine ee_kV ?_
      refine ee_aload_n 1 dWriter_pictureHeader_67 rfl ?_
      refine ee_getR dWriter_pictureHeader_68 lfWriter_14 (fun v68 _ => ?_)
      refine ee_aload_n 2 dWriter_pictureHeader_71 rfl ?_
      refine ee_getR dWriter_pictureHeader_72 lfWriter_51 (fun v72 _ => ?_)
      refine ee_iconst (v := (2 : Int32)) dWriter_pictureHeader_75 (by decide) ?_
      refine ee_iald (t := 0) dWriter_pictureHeader_76 rfl (fun v76 _ => ?_)
      refine ee_iconst (v := (2 : Int32)) dWriter_pictureHeader_77 (by decide) ?_
      refine ee_bind (fun _ ho78 => ?_)
      refine ee_callV (as := [.int v76, .int (2 : Int32)]) (st := []) dWriter_pictureHeader_78 (t_fBytes_appendNumber v68 v76 (2 : Int32) w64) my_fBytes_appendNumber.1 (Nat.le_of_ble_eq_true rfl) my_fBytes_appendNumber.2 rfl cf_2.1 rfl (p_obj_eq.mp ho78) gw_373 gw_374 gw_375 ⟨Nat.le_of_ble_eq_true rfl, Nat.le_of_ble_eq_true rfl⟩ (Nat.le_of_ble_eq_true rfl) (fun rv78 w78 _ => ?_)
      refine ee_kV ?_
      refine ee_aload_n 1 dWriter_pictureHeader_81 rfl ?_
      refine ee_getR dWriter_pictureHeader_82 lfWriter_14 (fun v82 _ => ?_)
      refine ee_iload_n 3 dWriter_pictureHeader_85 rfl ?_
      refine ee_iconst (v := (1 : Int32)) dWriter_pictureHeader_86 (by decide) ?_
      refine ee_isub dWriter_pictureHeader_87 ?_
      refine ee_bind (fun _ ho88 => ?_)
      refine ee_callV (as := [.int (l2 - (1 : Int32))]) (st := []) dWriter_pictureHeader_88 (t_fBytes_append v82 (l2 - (1 : Int32)) w78) my_fBytes_append.1 (Nat.le_of_ble_eq_true rfl) my_fBytes_append.2 rfl cf_2.1 rfl (p_obj_eq.mp ho88) gw_430 gw_378 gw_379 ⟨Nat.le_of_ble_eq_true rfl, Nat.le_of_ble_eq_true rfl⟩ (Nat.le_of_ble_eq_true rfl) (fun rv88 w88 _ => ?_)
      refine ee_kI (fun v88 => ?_)
      refine ee_pop dWriter_pictureHeader_91 rfl ?_
      refine ee_aload_n 1 dWriter_pictureHeader_92 rfl ?_
      refine ee_getR dWriter_pictureHeader_93 lfWriter_14 (fun v93 _ => ?_)
      refine ee_bipush (v := (7 : Int32)) dWriter_pictureHeader_96 (by decide) ?_
      refine ee_bind (fun _ ho98 => ?_)
      refine ee_callV (as := [.int (7 : Int32)]) (st := []) dWriter_pictureHeader_98 (t_fBytes_append v93 (7 : Int32) w88) my_fBytes_append.1 (Nat.le_of_ble_eq_true rfl) my_fBytes_append.2 rfl cf_2.1 rfl (p_obj_eq.mp ho98) gw_430 gw_378 gw_379 ⟨Nat.le_of_ble_eq_true rfl, Nat.le_of_ble_eq_true rfl⟩ (Nat.le_of_ble_eq_true rfl) (fun rv98 w98 _ => ?_)
      refine ee_kI (fun v98 => ?_)
      refine ee_pop dWriter_pictureHeader_101 rfl ?_
      refine ee_aload_n 1 dWriter_pictureHeader_102 rfl ?_
      refine ee_getR dWriter_pictureHeader_103 lfWriter_14 (fun v103 _ => ?_)
      refine ee_iconst (v := (0 : Int32)) dWriter_pictureHeader_106 (by decide) ?_
      refine ee_iconst (v := (2 : Int32)) dWriter_pictureHeader_107 (by decide) ?_
      refine ee_bind (fun _ ho108 => ?_)
      refine ee_callV (as := [.int (0 : Int32), .int (2 : Int32)]) (st := []) dWriter_pictureHeader_108 (t_fBytes_appendNumber v103 (0 : Int32) (2 : Int32) w98) my_fBytes_appendNumber.1 (Nat.le_of_ble_eq_true rfl) my_fBytes_appendNumber.2 rfl cf_2.1 rfl (p_obj_eq.mp ho108) gw_373 gw_374 gw_375 ⟨Nat.le_of_ble_eq_true rfl, Nat.le_of_ble_eq_true rfl⟩ (Nat.le_of_ble_eq_true rfl) (fun rv108 w108 _ => ?_)
      refine ee_kV ?_
      refine ee_aload_n 1 dWriter_pictureHeader_111 rfl ?_
      refine ee_iload_n 0 dWriter_pictureHeader_112 rfl ?_
      refine ee_bind (fun _ ho113 => ?_)
      refine ee_callV (as := [.int v35]) (st := []) dWriter_pictureHeader_113 (t_fWriter_closeBox l0 v35 w108) my_fWriter_closeBox.1 (Nat.le_of_ble_eq_true rfl) my_fWriter_closeBox.2 rfl cf_9.1 rfl (p_obj_eq.mp ho113) gw_397 gw_398 gw_399 ⟨Nat.le_of_ble_eq_true rfl, Nat.le_of_ble_eq_true rfl⟩ (Nat.le_of_ble_eq_true rfl) (fun rv113 w113 _ => ?_)
      refine ee_kV ?_
      exact ee_vret rfl dWriter_pictureHeader_116
    · refine ee_iload_n 2 dWriter_pictureHeader_14 rfl ?_
      refine ee_aload_n 1 dWriter_pictureHeader_15 rfl ?_
      refine ee_iconst (v := (3 : Int32)) dWriter_pictureHeader_16 (by decide) ?_
      refine ee_iconst (v := (-1 : Int32)) dWriter_pictureHeader_17 (by decide) ?_
      refine ee_iload_n 3 dWriter_pictureHeader_18 rfl ?_
      refine ee_bind (fun _ ho19 => ?_)
      refine ee_callV (as := [.int (3 : Int32), .int (-1 : Int32), .int l3]) (st := [.int l2]) dWriter_pictureHeader_19 (t_fSettings_valueOf l1 (3 : Int32) (-1 : Int32) l3 w) my_fSettings_valueOf.1 (Nat.le_of_ble_eq_true rfl) my_fSettings_valueOf.2 rfl cf_7.1 rfl (p_obj_eq.mp ho19) gw_416 gw_417 gw_418 ⟨Nat.le_of_ble_eq_true rfl, Nat.le_of_ble_eq_true rfl⟩ (Nat.le_of_ble_eq_true rfl) (fun rv19 w19 _ => ?_)
      refine ee_kI (fun v19 => ?_)
      refine ee_mmax dWriter_pictureHeader_22 gw_428 gw_mmaxs gw_mi gw_mmaxc ⟨Nat.le_of_ble_eq_true rfl, Nat.le_of_ble_eq_true rfl⟩ ?_
      refine ee_letI (fun l2_25 _ => ?_)
      refine ee_istore_n (lv2 := [(2, .int l2_25), (0, .ref l0), (1, .ref l1), (3, .int l3)]) dWriter_pictureHeader_25 (Nat.le_of_ble_eq_true rfl) rfl ?_
      refine ee_iinc 3 dWriter_pictureHeader_26 rfl (e := (1 : Int32)) (by decide) (Nat.le_of_ble_eq_true rfl) (fun l3_26 _ => ?_)
      refine ee_lv (lv2 := [(3, .int l3_26), (2, .int l2_25), (0, .ref l0), (1, .ref l1)]) rfl ?_
      refine ee_goto (tgt := 4) dWriter_pictureHeader_29 (by decide) ?_
      refine ee_pick [2, 3, 1, 0] rfl ?_
      exact ih _ _ _ _ w19
def fWriter_pictureHeader (l0 : Nat) (l1 : Nat) (w : PW) : PX := fWriter_pictureHeader_4 FUEL l0 l1 (1 : Int32) (0 : Int32) w
set_option maxRecDepth 20000 in
set_option maxHeartbeats 2000000 in
theorem t_fWriter_pictureHeader {Γ : PG} : ∀ (l0 : Nat) (l1 : Nat) (w : PW), EE Γ MWriter_pictureHeader 0 (lv_args 0 [.ref l0, .ref l1]) [] w (fWriter_pictureHeader l0 l1 w) := by
  intro l0 l1 w
  unfold fWriter_pictureHeader
  show EE Γ MWriter_pictureHeader 0 [(0, .ref l0), (1, .ref l1)] [] w _
  refine ee_iconst (v := (1 : Int32)) dWriter_pictureHeader_0 (by decide) ?_
  refine ee_istore_n (lv2 := [(2, .int (1 : Int32)), (0, .ref l0), (1, .ref l1)]) dWriter_pictureHeader_1 (Nat.le_of_ble_eq_true rfl) rfl ?_
  refine ee_iconst (v := (0 : Int32)) dWriter_pictureHeader_2 (by decide) ?_
  refine ee_istore_n (lv2 := [(3, .int (0 : Int32)), (2, .int (1 : Int32)), (0, .ref l0), (1, .ref l1)]) dWriter_pictureHeader_3 (Nat.le_of_ble_eq_true rfl) rfl ?_
  refine ee_pick [2, 3, 1, 0] rfl ?_
  exact t_fWriter_pictureHeader_4 FUEL _ _ _ _ w
def fAL_size (l0 : Nat) (w : PW) : PX := (p_getI w l0 11 2).bind fun v1 => some (.inl (some (.int v1)), w)
set_option maxRecDepth 20000 in
set_option maxHeartbeats 2000000 in
theorem t_fAL_size {Γ : PG} : ∀ (l0 : Nat) (w : PW), EE Γ MAL_size 0 (lv_args 0 [.ref l0]) [] w (fAL_size l0 w) := by
  intro l0 w
  unfold fAL_size
  show EE Γ MAL_size 0 [(0, .ref l0)] [] w _
  refine ee_aload_n 0 dAL_size_0 rfl ?_
  refine ee_getI dAL_size_1 lfAL_48 (fun v1 _ => ?_)
  exact ee_iret rfl dAL_size_4
def fPreconditions_checkIndex0_9 (l0 : Int32) (l1 : Int32) (w : PW) : PX := none
set_option maxRecDepth 20000 in
set_option maxHeartbeats 2000000 in
theorem t_fPreconditions_checkIndex0_9 {Γ : PG} : ∀ (l0 : Int32) (l1 : Int32) (w : PW), EE Γ MPreconditions_checkIndex0 9 [(0, .int l0), (1, .int l1), (2, .null)] [] w (fPreconditions_checkIndex0_9 l0 l1 w) := by
  intro l0 l1 w
  unfold fPreconditions_checkIndex0_9
  exact ee_none
def fPreconditions_checkIndex0 (l0 : Int32) (l1 : Int32) (w : PW) : PX := if l0 < 0 then (fPreconditions_checkIndex0_9 l0 l1 w) else (if l0 < l1 then (some (.inl (some (.int l0)), w)) else (fPreconditions_checkIndex0_9 l0 l1 w))
set_option maxRecDepth 20000 in
set_option maxHeartbeats 2000000 in
theorem t_fPreconditions_checkIndex0 {Γ : PG} : ∀ (l0 : Int32) (l1 : Int32) (w : PW), EE Γ MPreconditions_checkIndex0 0 (lv_args 0 [.int l0, .int l1, .null]) [] w (fPreconditions_checkIndex0 l0 l1 w) := by
  intro l0 l1 w
  unfold fPreconditions_checkIndex0
  show EE Γ MPreconditions_checkIndex0 0 [(0, .int l0), (1, .int l1), (2, .null)] [] w _
  refine ee_iload_n 0 dPreconditions_checkIndex0_0 rfl ?_
  refine ee_if_lt (tgt := 9) dPreconditions_checkIndex0_1 (by decide) (fun h1 => ?_) (fun h1 => ?_)
  · exact t_fPreconditions_checkIndex0_9 _ _ w
  · refine ee_iload_n 0 dPreconditions_checkIndex0_4 rfl ?_
    refine ee_iload_n 1 dPreconditions_checkIndex0_5 rfl ?_
    refine ee_icmp_lt (tgt := 16) dPreconditions_checkIndex0_6 (by decide) (fun h6 => ?_) (fun h6 => ?_)
    · refine ee_iload_n 0 dPreconditions_checkIndex0_16 rfl ?_
      exact ee_iret rfl dPreconditions_checkIndex0_17
    · exact t_fPreconditions_checkIndex0_9 _ _ w
def fObjects_checkIndex0 (l0 : Int32) (l1 : Int32) (w : PW) : PX := p_call (fPreconditions_checkIndex0 l0 l1 w) <| p_kI fun v3 w3 => some (.inl (some (.int v3)), w3)
set_option maxRecDepth 20000 in
set_option maxHeartbeats 2000000 in
theorem t_fObjects_checkIndex0 {Γ : PG} : ∀ (l0 : Int32) (l1 : Int32) (w : PW), EE Γ MObjects_checkIndex0 0 (lv_args 0 [.int l0, .int l1]) [] w (fObjects_checkIndex0 l0 l1 w) := by
  intro l0 l1 w
  unfold fObjects_checkIndex0
  show EE Γ MObjects_checkIndex0 0 [(0, .int l0), (1, .int l1)] [] w _
  refine ee_iload_n 0 dObjects_checkIndex0_0 rfl ?_
  refine ee_iload_n 1 dObjects_checkIndex0_1 rfl ?_
  refine ee_null dObjects_checkIndex0_2 ?_
  refine ee_callS (as := [.int l0, .int l1, .null]) (st := []) dObjects_checkIndex0_3 (t_fPreconditions_checkIndex0 l0 l1 w) my_fPreconditions_checkIndex0.1 (Nat.le_of_ble_eq_true rfl) my_fPreconditions_checkIndex0.2 rfl gw_446 gw_447 ⟨Nat.le_of_ble_eq_true rfl, Nat.le_of_ble_eq_true rfl⟩ (Nat.le_of_ble_eq_true rfl) (fun rv3 w3 _ => ?_)
  refine ee_kI (fun v3 => ?_)
  exact ee_iret rfl dObjects_checkIndex0_6
def fAL_elementData (l0 : Nat) (l1 : Int32) (w : PW) : PX := (p_getV w l0 11 1).bind fun v9 => p_spl v9 (fun v1 => (p_aldR w v1 l1).bind fun v5 => some (.inl (some (.ref v5)), w)) (none)
set_option maxRecDepth 20000 in
set_option maxHeartbeats 2000000 in
theorem t_fAL_elementData {Γ : PG} : ∀ (l0 : Nat) (l1 : Int32) (w : PW), EE Γ MAL_elementData 0 (lv_args 0 [.ref l0, .int l1]) [] w (fAL_elementData l0 l1 w) := by
  intro l0 l1 w
  unfold fAL_elementData
  show EE Γ MAL_elementData 0 [(0, .ref l0), (1, .int l1)] [] w _
  refine ee_aload_n 0 dAL_elementData_0 rfl ?_
  refine ee_getV dAL_elementData_1 lfAL_9 (fun v1 => ?_) ?_
  · refine ee_iload_n 1 dAL_elementData_4 rfl ?_
    refine ee_aald dAL_elementData_5 (fun v5 _ => ?_)
    exact ee_aret rfl (Or.inl ⟨_, rfl⟩) dAL_elementData_6
  · refine ee_iload_n 1 dAL_elementData_4 rfl ?_
    exact ee_none
def fAL_get (l0 : Nat) (l1 : Int32) (w : PW) : PX := (p_getI w l0 11 2).bind fun v2 => p_call (fObjects_checkIndex0 l1 v2 w) <| p_kI fun v5 w5 => (p_obj w5 l0 11).bind fun _ => p_call (fAL_elementData l0 l1 w5) <| p_kR fun v11 w11 => some (.inl (some (.ref v11)), w11)
set_option maxRecDepth 20000 in
set_option maxHeartbeats 2000000 in
theorem t_fAL_get {Γ : PG} : ∀ (l0 : Nat) (l1 : Int32) (w : PW), EE Γ MAL_get 0 (lv_args 0 [.ref l0, .int l1]) [] w (fAL_get l0 l1 w) := by
  intro l0 l1 w
  unfold fAL_get
  show EE Γ MAL_get 0 [(0, .ref l0), (1, .int l1)] [] w _
  refine ee_iload_n 1 dAL_get_0 rfl ?_
  refine ee_aload_n 0 dAL_get_1 rfl ?_
  refine ee_getI dAL_get_2 lfAL_48 (fun v2 _ => ?_)
  refine ee_callS (as := [.int l1, .int v2]) (st := []) dAL_get_5 (t_fObjects_checkIndex0 l1 v2 w) my_fObjects_checkIndex0.1 (Nat.le_of_ble_eq_true rfl) my_fObjects_checkIndex0.2 rfl gw_443 gw_444 ⟨Nat.le_of_ble_eq_true rfl, Nat.le_of_ble_eq_true rfl⟩ (Nat.le_of_ble_eq_true rfl) (fun rv5 w5 _ => ?_)
  refine ee_kI (fun v5 => ?_)
  refine ee_pop dAL_get_8 rfl ?_
  refine ee_aload_n 0 dAL_get_9 rfl ?_
  refine ee_iload_n 1 dAL_get_10 rfl ?_
  refine ee_bind (fun _ ho11 => ?_)
  refine ee_callV (as := [.int l1]) (st := []) dAL_get_11 (t_fAL_elementData l0 l1 w5) my_fAL_elementData.1 (Nat.le_of_ble_eq_true rfl) my_fAL_elementData.2 rfl cf_11.1 rfl (p_obj_eq.mp ho11) gw_449 gw_450 gw_451 ⟨Nat.le_of_ble_eq_true rfl, Nat.le_of_ble_eq_true rfl⟩ (Nat.le_of_ble_eq_true rfl) (fun rv11 w11 _ => ?_)
  refine ee_kR (fun v11 => ?_)
  exact ee_aret rfl (Or.inl ⟨_, rfl⟩) dAL_get_14
def fWriter_appendAll_2 : Nat → Nat → Nat → Int32 → PW → PX
  | 0, _, _, _, _ => none
  | n9 + 1, l0, l1, l2, w => (p_getI w l1 2 2).bind fun v4 => if v4 ≤ l2 then (some (.inl none, w)) else ((p_getR w l0 9 0).bind fun v11 => (p_obj w l1 2).bind fun _ => p_call (fBytes_get l1 l2 w) <| p_kI fun v16 w16 => (p_obj w16 v11 2).bind fun _ => p_call (fBytes_append v11 v16 w16) <| p_kI fun v19 w19 => p_let (l2 + (1 : Int32)) fun (l2_23 : Int32) => (fWriter_appendAll_2 n9) l0 l1 l2_23 w19)
set_option maxRecDepth 20000 in
set_option maxHeartbeats 2000000 in
theorem t_fWriter_appendAll_2 {Γ : PG} : ∀ (n9 : Nat) (l0 : Nat) (l1 : Nat) (l2 : Int32) (w : PW), EE Γ MWriter_appendAll 2 [(0, .ref l0), (1, .ref l1), (2, .int l2)] [] w (fWriter_appendAll_2 n9 l0 l1 l2 w) := by
  intro n9
  induction n9 with
  | zero => intro l0 l1 l2 w; exact ee_none
  | succ n9 ih =>
    intro l0 l1 l2 w
    unfold fWriter_appendAll_2
    refine ee_iload_n 2 dWriter_appendAll_2 rfl ?_
    refine ee_aload_n 1 dWriter_appendAll_3 rfl ?_
    refine ee_getI dWriter_appendAll_4 lfWriter_20 (fun v4 _ => ?_)
    refine ee_icmp_ge (tgt := 29) dWriter_appendAll_7 (by decide) (fun h7 => ?_) (fun h7 => ?_)
    · exact ee_vret rfl dWriter_appendAll_29
    · refine ee_aload_n 0 dWriter_appendAll_10 rfl ?_
      refine ee_getR dWriter_appendAll_11 lfWriter_14 (fun v11 _ => ?_)
      refine ee_aload_n 1 dWriter_appendAll_14 rfl ?_
      refine ee_iload_n 2 dWriter_appendAll_15 rfl ?_
      refine ee_bind (fun _ ho16 => ?_)
      refine ee_callV (as := [.int l2]) (st := [.ref v11]) dWriter_appendAll_16 (t_fBytes_get l1 l2 w) my_fBytes_get.1 (Nat.le_of_ble_eq_true rfl) my_fBytes_get.2 rfl cf_2.1 rfl (p_obj_eq.mp ho16) gw_458 gw_459 gw_460 ⟨Nat.le_of_ble_eq_true rfl, Nat.le_of_ble_eq_true rfl⟩ (Nat.le_of_ble_eq_true rfl) (fun rv16 w16 _ => ?_)
      refine ee_kI (fun v16 => ?_)
      refine ee_bind (fun _ ho19 => ?_)
      refine ee_callV (as := [.int v16]) (st := []) dWriter_appendAll_19 (t_fBytes_append v11 v16 w16) my_fBytes_append.1 (Nat.le_of_ble_eq_true rfl) my_fBytes_append.2 rfl cf_2.1 rfl (p_obj_eq.mp ho19) gw_430 gw_378 gw_379 ⟨Nat.le_of_ble_eq_true rfl, Nat.le_of_ble_eq_true rfl⟩ (Nat.le_of_ble_eq_true rfl) (fun rv19 w19 _ => ?_)
      refine ee_kI (fun v19 => ?_)
      refine ee_pop dWriter_appendAll_22 rfl ?_
      refine ee_iinc 2 dWriter_appendAll_23 rfl (e := (1 : Int32)) (by decide) (Nat.le_of_ble_eq_true rfl) (fun l2_23 _ => ?_)
      refine ee_lv (lv2 := [(2, .int l2_23), (0, .ref l0), (1, .ref l1)]) rfl ?_
      refine ee_goto (tgt := 2) dWriter_appendAll_26 (by decide) ?_
      refine ee_pick [1, 2, 0] rfl ?_
      exact ih _ _ _ w19
def fWriter_appendAll (l0 : Nat) (l1 : Nat) (w : PW) : PX := fWriter_appendAll_2 FUEL l0 l1 (0 : Int32) w
set_option maxRecDepth 20000 in
set_option maxHeartbeats 2000000 in
theorem t_fWriter_appendAll {Γ : PG} : ∀ (l0 : Nat) (l1 : Nat) (w : PW), EE Γ MWriter_appendAll 0 (lv_args 0 [.ref l0, .ref l1]) [] w (fWriter_appendAll l0 l1 w) := by
  intro l0 l1 w
  unfold fWriter_appendAll
  show EE Γ MWriter_appendAll 0 [(0, .ref l0), (1, .ref l1)] [] w _
  refine ee_iconst (v := (0 : Int32)) dWriter_appendAll_0 (by decide) ?_
  refine ee_istore_n (lv2 := [(2, .int (0 : Int32)), (0, .ref l0), (1, .ref l1)]) dWriter_appendAll_1 (Nat.le_of_ble_eq_true rfl) rfl ?_
  refine ee_pick [1, 2, 0] rfl ?_
  exact t_fWriter_appendAll_2 FUEL _ _ _ w
def fWriter_madeBoxes_2 : Nat → Nat → Nat → Int32 → Int32 → PW → PX
  | 0, _, _, _, _, _ => none
  | n9 + 1, l0, l1, l2, l3, w => (p_obj w l1 11).bind fun _ => p_call (fAL_size l1 w) <| p_kI fun v4 w4 => if v4 ≤ l3 then (some (.inl none, w4)) else ((p_obj w4 l1 11).bind fun _ => p_call (fAL_get l1 l3 w4) <| p_kR fun v12 w12 => (p_obj w12 v12 4).bind fun _ => (p_getI w12 v12 4 0).bind fun v22 => if ¬ v22 = l2 then (p_let (l3 + (1 : Int32)) fun (l3_55 : Int32) => (fWriter_madeBoxes_2 n9) l0 l1 l2 l3_55 w12) else ((p_getI w12 v12 4 1).bind fun v32 => (p_obj w12 l0 9).bind fun _ => p_call (fWriter_openBox l0 v32 w12) <| p_kI fun v35 w35 => (p_getR w35 v12 4 2).bind fun v43 => (p_obj w35 l0 9).bind fun _ => p_call (fWriter_appendAll l0 v43 w35) <| p_kV fun w46 => (p_obj w46 l0 9).bind fun _ => p_call (fWriter_closeBox l0 v35 w46) <| p_kV fun w52 => p_let (l3 + (1 : Int32)) fun (l3_55 : Int32) => (fWriter_madeBoxes_2 n9) l0 l1 l2 l3_55 w52))
set_option maxRecDepth 20000 in
set_option maxHeartbeats 2000000 in
theorem t_fWriter_madeBoxes_2 {Γ : PG} : ∀ (n9 : Nat) (l0 : Nat) (l1 : Nat) (l2 : Int32) (l3 : Int32) (w : PW), EE Γ MWriter_madeBoxes 2 [(0, .ref l0), (1, .ref l1), (2, .int l2), (3, .int l3)] [] w (fWriter_madeBoxes_2 n9 l0 l1 l2 l3 w) := by
  intro n9
  induction n9 with
  | zero => intro l0 l1 l2 l3 w; exact ee_none
  | succ n9 ih =>
    intro l0 l1 l2 l3 w
    unfold fWriter_madeBoxes_2
    refine ee_iload_n 3 dWriter_madeBoxes_2 rfl ?_
    refine ee_aload_n 1 dWriter_madeBoxes_3 rfl ?_
    refine ee_bind (fun _ ho4 => ?_)
    refine ee_callV (as := []) (st := [.int l3]) dWriter_madeBoxes_4 (t_fAL_size l1 w) my_fAL_size.1 (Nat.le_of_ble_eq_true rfl) my_fAL_size.2 rfl cf_11.1 rfl (p_obj_eq.mp ho4) gw_435 gw_436 gw_437 ⟨Nat.le_of_ble_eq_true rfl, Nat.le_of_ble_eq_true rfl⟩ (Nat.le_of_ble_eq_true rfl) (fun rv4 w4 _ => ?_)
    refine ee_kI (fun v4 => ?_)
    refine ee_icmp_ge (tgt := 61) dWriter_madeBoxes_7 (by decide) (fun h7 => ?_) (fun h7 => ?_)
    · exact ee_vret rfl dWriter_madeBoxes_61
    · refine ee_aload_n 1 dWriter_madeBoxes_10 rfl ?_
      refine ee_iload_n 3 dWriter_madeBoxes_11 rfl ?_
      refine ee_bind (fun _ ho12 => ?_)
      refine ee_callV (as := [.int l3]) (st := []) dWriter_madeBoxes_12 (t_fAL_get l1 l3 w4) my_fAL_get.1 (Nat.le_of_ble_eq_true rfl) my_fAL_get.2 rfl cf_11.1 rfl (p_obj_eq.mp ho12) gw_439 gw_440 gw_441 ⟨Nat.le_of_ble_eq_true rfl, Nat.le_of_ble_eq_true rfl⟩ (Nat.le_of_ble_eq_true rfl) (fun rv12 w12 _ => ?_)
      refine ee_kR (fun v12 => ?_)
      refine ee_bind (fun _ ho15 => ?_)
      refine ee_cast dWriter_madeBoxes_15 cf_4.1 gw_453 gw_1611 (p_obj_eq.mp ho15) ?_
      refine ee_astore (lv2 := [(4, .ref v12), (0, .ref l0), (1, .ref l1), (2, .int l2), (3, .int l3)]) dWriter_madeBoxes_18 (Nat.le_of_ble_eq_true rfl) rfl ?_
      refine ee_aload 0 dWriter_madeBoxes_20 rfl ?_
      refine ee_getI dWriter_madeBoxes_22 lfWriter_84 (fun v22 _ => ?_)
      refine ee_iload_n 3 dWriter_madeBoxes_25 rfl ?_
      refine ee_icmp_ne (tgt := 55) dWriter_madeBoxes_26 (by decide) (fun h26 => ?_) (fun h26 => ?_)
      · refine ee_iinc 4 dWriter_madeBoxes_55 rfl (e := (1 : Int32)) (by decide) (Nat.le_of_ble_eq_true rfl) (fun l3_55 _ => ?_)
        refine ee_lv (lv2 := [(3, .int l3_55), (4, .ref v12), (0, .ref l0), (1, .ref l1), (2, .int l2)]) rfl ?_
        refine ee_goto (tgt := 2) dWriter_madeBoxes_58 (by decide) ?_
        refine ee_pick [2, 3, 4, 0] rfl ?_
        exact ih _ _ _ _ w12
      · refine ee_aload_n 1 dWriter_madeBoxes_29 rfl ?_
        refine ee_aload 0 dWriter_madeBoxes_30 rfl ?_
        refine ee_getI dWriter_madeBoxes_32 lfWriter_88 (fun v32 _ => ?_)
        refine ee_bind (fun _ ho35 => ?_)
        refine ee_callV (as := [.int v32]) (st := []) dWriter_madeBoxes_35 (t_fWriter_openBox l0 v32 w12) my_fWriter_openBox.1 (Nat.le_of_ble_eq_true rfl) my_fWriter_openBox.2 rfl cf_9.1 rfl (p_obj_eq.mp ho35) gw_369 gw_370 gw_371 ⟨Nat.le_of_ble_eq_true rfl, Nat.le_of_ble_eq_true rfl⟩ (Nat.le_of_ble_eq_true rfl) (fun rv35 w35 _ => ?_)
        refine ee_kI (fun v35 => ?_)
        refine ee_istore (lv2 := [(5, .int v35), (4, .ref v12), (0, .ref l0), (1, .ref l1), (2, .int l2), (3, .int l3)]) dWriter_madeBoxes_38 (Nat.le_of_ble_eq_true rfl) rfl ?_
        refine ee_aload_n 2 dWriter_madeBoxes_40 rfl ?_
        refine ee_aload 1 dWriter_madeBoxes_41 rfl ?_
        refine ee_getR dWriter_madeBoxes_43 lfWriter_91 (fun v43 _ => ?_)
        refine ee_bind (fun _ ho46 => ?_)
        refine ee_callV (as := [.ref v43]) (st := []) dWriter_madeBoxes_46 (t_fWriter_appendAll l0 v43 w35) my_fWriter_appendAll.1 (Nat.le_of_ble_eq_true rfl) my_fWriter_appendAll.2 rfl cf_9.1 rfl (p_obj_eq.mp ho46) gw_454 gw_455 gw_456 ⟨Nat.le_of_ble_eq_true rfl, Nat.le_of_ble_eq_true rfl⟩ (Nat.le_of_ble_eq_true rfl) (fun rv46 w46 _ => ?_)
        refine ee_kV ?_
        refine ee_aload_n 2 dWriter_madeBoxes_49 rfl ?_
        refine ee_iload 0 dWriter_madeBoxes_50 rfl ?_
        refine ee_bind (fun _ ho52 => ?_)
        refine ee_callV (as := [.int v35]) (st := []) dWriter_madeBoxes_52 (t_fWriter_closeBox l0 v35 w46) my_fWriter_closeBox.1 (Nat.le_of_ble_eq_true rfl) my_fWriter_closeBox.2 rfl cf_9.1 rfl (p_obj_eq.mp ho52) gw_397 gw_398 gw_399 ⟨Nat.le_of_ble_eq_true rfl, Nat.le_of_ble_eq_true rfl⟩ (Nat.le_of_ble_eq_true rfl) (fun rv52 w52 _ => ?_)
        refine ee_kV ?_
        refine ee_iinc 5 dWriter_madeBoxes_55 rfl (e := (1 : Int32)) (by decide) (Nat.le_of_ble_eq_true rfl) (fun l3_55 _ => ?_)
        refine ee_lv (lv2 := [(3, .int l3_55), (5, .int v35), (4, .ref v12), (0, .ref l0), (1, .ref l1), (2, .int l2)]) rfl ?_
        refine ee_goto (tgt := 2) dWriter_madeBoxes_58 (by decide) ?_
        refine ee_pick [3, 4, 5, 0] rfl ?_
        exact ih _ _ _ _ w52
def fWriter_madeBoxes (l0 : Nat) (l1 : Nat) (l2 : Int32) (w : PW) : PX := fWriter_madeBoxes_2 FUEL l0 l1 l2 (0 : Int32) w
set_option maxRecDepth 20000 in
set_option maxHeartbeats 2000000 in
theorem t_fWriter_madeBoxes {Γ : PG} : ∀ (l0 : Nat) (l1 : Nat) (l2 : Int32) (w : PW), EE Γ MWriter_madeBoxes 0 (lv_args 0 [.ref l0, .ref l1, .int l2]) [] w (fWriter_madeBoxes l0 l1 l2 w) := by
  intro l0 l1 l2 w
  unfold fWriter_madeBoxes
  show EE Γ MWriter_madeBoxes 0 [(0, .ref l0), (1, .ref l1), (2, .int l2)] [] w _
  refine ee_iconst (v := (0 : Int32)) dWriter_madeBoxes_0 (by decide) ?_
  refine ee_istore_n (lv2 := [(3, .int (0 : Int32)), (0, .ref l0), (1, .ref l1), (2, .int l2)]) dWriter_madeBoxes_1 (Nat.le_of_ble_eq_true rfl) rfl ?_
  refine ee_pick [1, 2, 3, 0] rfl ?_
  exact t_fWriter_madeBoxes_2 FUEL _ _ _ _ w
def fWriter_headBoxes (l0 : Nat) (l1 : Nat) (l2 : Nat) (w : PW) : PX := (p_obj w l0 9).bind fun _ => p_call (fWriter_openBox l0 (1783636000 : Int32) w) <| p_kI fun v3 w3 => (p_getR w3 l0 9 0).bind fun v8 => (p_obj w3 v8 2).bind fun _ => p_call (fBytes_appendNumber v8 (218793738 : Int32) (4 : Int32) w3) <| p_kV fun w14 => (p_obj w14 l0 9).bind fun _ => p_call (fWriter_closeBox l0 v3 w14) <| p_kV fun w19 => (p_obj w19 l0 9).bind fun _ => p_call (fWriter_openBox l0 (1718909296 : Int32) w19) <| p_kI fun v25 w25 => (p_getR w25 l0 9 0).bind fun v31 => (p_obj w25 v31 2).bind fun _ => p_call (fBytes_appendNumber v31 (1785737760 : Int32) (4 : Int32) w25) <| p_kV fun w37 => (p_getR w37 l0 9 0).bind fun v41 => (p_obj w37 v41 2).bind fun _ => p_call (fBytes_appendNumber v41 (0 : Int32) (4 : Int32) w37) <| p_kV fun w46 => (p_getR w46 l0 9 0).bind fun v50 => (p_obj w46 v50 2).bind fun _ => p_call (fBytes_appendNumber v50 (1785737760 : Int32) (4 : Int32) w46) <| p_kV fun w56 => (p_obj w56 l0 9).bind fun _ => p_call (fWriter_closeBox l0 v25 w56) <| p_kV fun w62 => (p_obj w62 l0 9).bind fun _ => p_call (fWriter_openBox l0 (1785737832 : Int32) w62) <| p_kI fun v68 w68 => (p_obj w68 l0 9).bind fun _ => p_call (fWriter_pictureHeader l0 l1 w68) <| p_kV fun w75 => (p_obj w75 l0 9).bind fun _ => p_call (fWriter_madeBoxes l0 l2 (1 : Int32) w75) <| p_kV fun w81 => (p_obj w81 l0 9).bind fun _ => p_call (fWriter_closeBox l0 v68 w81) <| p_kV fun w87 => some (.inl none, w87)
set_option maxRecDepth 20000 in
set_option maxHeartbeats 2000000 in
theorem t_fWriter_headBoxes {Γ : PG} : ∀ (l0 : Nat) (l1 : Nat) (l2 : Nat) (w : PW), EE Γ MWriter_headBoxes 0 (lv_args 0 [.ref l0, .ref l1, .ref l2]) [] w (fWriter_headBoxes l0 l1 l2 w) := by
  intro l0 l1 l2 w
  unfold fWriter_headBoxes
  show EE Γ MWriter_headBoxes 0 [(0, .ref l0), (1, .ref l1), (2, .ref l2)] [] w _
  refine ee_aload_n 0 dWriter_headBoxes_0 rfl ?_
  refine ee_ldc (v := (1783636000 : Int32)) dWriter_headBoxes_1 gw_368 ?_
  refine ee_bind (fun _ ho3 => ?_)
  refine ee_callV (as := [.int (1783636000 : Int32)]) (st := []) dWriter_headBoxes_3 (t_fWriter_openBox l0 (1783636000 : Int32) w) my_fWriter_openBox.1 (Nat.le_of_ble_eq_true rfl) my_fWriter_openBox.2 rfl cf_9.1 rfl (p_obj_eq.mp ho3) gw_369 gw_370 gw_371 ⟨Nat.le_of_ble_eq_true rfl, Nat.le_of_ble_eq_true rfl⟩ (Nat.le_of_ble_eq_true rfl) (fun rv3 w3 _ => ?_)
  refine ee_kI (fun v3 => ?_)
  refine ee_istore_n (lv2 := [(3, .int v3), (0, .ref l0), (1, .ref l1), (2, .ref l2)]) dWriter_headBoxes_6 (Nat.le_of_ble_eq_true rfl) rfl ?_
  refine ee_aload_n 1 dWriter_headBoxes_7 rfl ?_
  refine ee_getR dWriter_headBoxes_8 lfWriter_14 (fun v8 _ => ?_)
  refine ee_ldc (v := (218793738 : Int32)) dWriter_headBoxes_11 gw_396 ?_
  refine ee_iconst (v := (4 : Int32)) dWriter_headBoxes_13 (by decide) ?_
  refine ee_bind (fun _ ho14 => ?_)
  refine ee_callV (as := [.int (218793738 : Int32), .int (4 : Int32)]) (st := []) dWriter_headBoxes_14 (t_fBytes_appendNumber v8 (218793738 : Int32) (4 : Int32) w3) my_fBytes_appendNumber.1 (Nat.le_of_ble_eq_true rfl) my_fBytes_appendNumber.2 rfl cf_2.1 rfl (p_obj_eq.mp ho14) gw_373 gw_374 gw_375 ⟨Nat.le_of_ble_eq_true rfl, Nat.le_of_ble_eq_true rfl⟩ (Nat.le_of_ble_eq_true rfl) (fun rv14 w14 _ => ?_)
  refine ee_kV ?_
  refine ee_aload_n 1 dWriter_headBoxes_17 rfl ?_
  refine ee_iload_n 0 dWriter_headBoxes_18 rfl ?_
  refine ee_bind (fun _ ho19 => ?_)
  refine ee_callV (as := [.int v3]) (st := []) dWriter_headBoxes_19 (t_fWriter_closeBox l0 v3 w14) my_fWriter_closeBox.1 (Nat.le_of_ble_eq_true rfl) my_fWriter_closeBox.2 rfl cf_9.1 rfl (p_obj_eq.mp ho19) gw_397 gw_398 gw_399 ⟨Nat.le_of_ble_eq_true rfl, Nat.le_of_ble_eq_true rfl⟩ (Nat.le_of_ble_eq_true rfl) (fun rv19 w19 _ => ?_)
  refine ee_kV ?_
  refine ee_aload_n 1 dWriter_headBoxes_22 rfl ?_
  refine ee_ldc (v := (1718909296 : Int32)) dWriter_headBoxes_23 gw_409 ?_
  refine ee_bind (fun _ ho25 => ?_)
  refine ee_callV (as := [.int (1718909296 : Int32)]) (st := []) dWriter_headBoxes_25 (t_fWriter_openBox l0 (1718909296 : Int32) w19) my_fWriter_openBox.1 (Nat.le_of_ble_eq_true rfl) my_fWriter_openBox.2 rfl cf_9.1 rfl (p_obj_eq.mp ho25) gw_369 gw_370 gw_371 ⟨Nat.le_of_ble_eq_true rfl, Nat.le_of_ble_eq_true rfl⟩ (Nat.le_of_ble_eq_true rfl) (fun rv25 w25 _ => ?_)
  refine ee_kI (fun v25 => ?_)
  refine ee_istore (lv2 := [(4, .int v25), (3, .int v3), (0, .ref l0), (1, .ref l1), (2, .ref l2)]) dWriter_headBoxes_28 (Nat.le_of_ble_eq_true rfl) rfl ?_
  refine ee_aload_n 2 dWriter_headBoxes_30 rfl ?_
  refine ee_getR dWriter_headBoxes_31 lfWriter_14 (fun v31 _ => ?_)
  refine ee_ldc (v := (1785737760 : Int32)) dWriter_headBoxes_34 gw_410 ?_
  refine ee_iconst (v := (4 : Int32)) dWriter_headBoxes_36 (by decide) ?_
  refine ee_bind (fun _ ho37 => ?_)
  refine ee_callV (as := [.int (1785737760 : Int32), .int (4 : Int32)]) (st := []) dWriter_headBoxes_37 (t_fBytes_appendNumber v31 (1785737760 : Int32) (4 : Int32) w25) my_fBytes_appendNumber.1 (Nat.le_of_ble_eq_true rfl) my_fBytes_appendNumber.2 rfl cf_2.1 rfl (p_obj_eq.mp ho37) gw_373 gw_374 gw_375 ⟨Nat.le_of_ble_eq_true rfl, Nat.le_of_ble_eq_true rfl⟩ (Nat.le_of_ble_eq_true rfl) (fun rv37 w37 _ => ?_)
  refine ee_kV ?_
  refine ee_aload_n 2 dWriter_headBoxes_40 rfl ?_
  refine ee_getR dWriter_headBoxes_41 lfWriter_14 (fun v41 _ => ?_)
  refine ee_iconst (v := (0 : Int32)) dWriter_headBoxes_44 (by decide) ?_
  refine ee_iconst (v := (4 : Int32)) dWriter_headBoxes_45 (by decide) ?_
  refine ee_bind (fun _ ho46 => ?_)
  refine ee_callV (as := [.int (0 : Int32), .int (4 : Int32)]) (st := []) dWriter_headBoxes_46 (t_fBytes_appendNumber v41 (0 : Int32) (4 : Int32) w37) my_fBytes_appendNumber.1 (Nat.le_of_ble_eq_true rfl) my_fBytes_appendNumber.2 rfl cf_2.1 rfl (p_obj_eq.mp ho46) gw_373 gw_374 gw_375 ⟨Nat.le_of_ble_eq_true rfl, Nat.le_of_ble_eq_true rfl⟩ (Nat.le_of_ble_eq_true rfl) (fun rv46 w46 _ => ?_)
  refine ee_kV ?_
  refine ee_aload_n 2 dWriter_headBoxes_49 rfl ?_
  refine ee_getR dWriter_headBoxes_50 lfWriter_14 (fun v50 _ => ?_)
  refine ee_ldc (v := (1785737760 : Int32)) dWriter_headBoxes_53 gw_410 ?_
  refine ee_iconst (v := (4 : Int32)) dWriter_headBoxes_55 (by decide) ?_
  refine ee_bind (fun _ ho56 => ?_)
  refine ee_callV (as := [.int (1785737760 : Int32), .int (4 : Int32)]) (st := []) dWriter_headBoxes_56 (t_fBytes_appendNumber v50 (1785737760 : Int32) (4 : Int32) w46) my_fBytes_appendNumber.1 (Nat.le_of_ble_eq_true rfl) my_fBytes_appendNumber.2 rfl cf_2.1 rfl (p_obj_eq.mp ho56) gw_373 gw_374 gw_375 ⟨Nat.le_of_ble_eq_true rfl, Nat.le_of_ble_eq_true rfl⟩ (Nat.le_of_ble_eq_true rfl) (fun rv56 w56 _ => ?_)
  refine ee_kV ?_
  refine ee_aload_n 2 dWriter_headBoxes_59 rfl ?_
  refine ee_iload 0 dWriter_headBoxes_60 rfl ?_
  refine ee_bind (fun _ ho62 => ?_)
  refine ee_callV (as := [.int v25]) (st := []) dWriter_headBoxes_62 (t_fWriter_closeBox l0 v25 w56) my_fWriter_closeBox.1 (Nat.le_of_ble_eq_true rfl) my_fWriter_closeBox.2 rfl cf_9.1 rfl (p_obj_eq.mp ho62) gw_397 gw_398 gw_399 ⟨Nat.le_of_ble_eq_true rfl, Nat.le_of_ble_eq_true rfl⟩ (Nat.le_of_ble_eq_true rfl) (fun rv62 w62 _ => ?_)
  refine ee_kV ?_
  refine ee_aload_n 2 dWriter_headBoxes_65 rfl ?_
  refine ee_ldc (v := (1785737832 : Int32)) dWriter_headBoxes_66 gw_411 ?_
  refine ee_bind (fun _ ho68 => ?_)
  refine ee_callV (as := [.int (1785737832 : Int32)]) (st := []) dWriter_headBoxes_68 (t_fWriter_openBox l0 (1785737832 : Int32) w62) my_fWriter_openBox.1 (Nat.le_of_ble_eq_true rfl) my_fWriter_openBox.2 rfl cf_9.1 rfl (p_obj_eq.mp ho68) gw_369 gw_370 gw_371 ⟨Nat.le_of_ble_eq_true rfl, Nat.le_of_ble_eq_true rfl⟩ (Nat.le_of_ble_eq_true rfl) (fun rv68 w68 _ => ?_)
  refine ee_kI (fun v68 => ?_)
  refine ee_istore (lv2 := [(5, .int v68), (4, .int v25), (3, .int v3), (0, .ref l0), (1, .ref l1), (2, .ref l2)]) dWriter_headBoxes_71 (Nat.le_of_ble_eq_true rfl) rfl ?_
  refine ee_aload_n 3 dWriter_headBoxes_73 rfl ?_
  refine ee_aload_n 4 dWriter_headBoxes_74 rfl ?_
  refine ee_bind (fun _ ho75 => ?_)
  refine ee_callV (as := [.ref l1]) (st := []) dWriter_headBoxes_75 (t_fWriter_pictureHeader l0 l1 w68) my_fWriter_pictureHeader.1 (Nat.le_of_ble_eq_true rfl) my_fWriter_pictureHeader.2 rfl cf_9.1 rfl (p_obj_eq.mp ho75) gw_412 gw_413 gw_414 ⟨Nat.le_of_ble_eq_true rfl, Nat.le_of_ble_eq_true rfl⟩ (Nat.le_of_ble_eq_true rfl) (fun rv75 w75 _ => ?_)
  refine ee_kV ?_
  refine ee_aload_n 3 dWriter_headBoxes_78 rfl ?_
  refine ee_aload_n 5 dWriter_headBoxes_79 rfl ?_
  refine ee_iconst (v := (1 : Int32)) dWriter_headBoxes_80 (by decide) ?_
  refine ee_bind (fun _ ho81 => ?_)
  refine ee_callV (as := [.ref l2, .int (1 : Int32)]) (st := []) dWriter_headBoxes_81 (t_fWriter_madeBoxes l0 l2 (1 : Int32) w75) my_fWriter_madeBoxes.1 (Nat.le_of_ble_eq_true rfl) my_fWriter_madeBoxes.2 rfl cf_9.1 rfl (p_obj_eq.mp ho81) gw_431 gw_432 gw_433 ⟨Nat.le_of_ble_eq_true rfl, Nat.le_of_ble_eq_true rfl⟩ (Nat.le_of_ble_eq_true rfl) (fun rv81 w81 _ => ?_)
  refine ee_kV ?_
  refine ee_aload_n 3 dWriter_headBoxes_84 rfl ?_
  refine ee_iload 0 dWriter_headBoxes_85 rfl ?_
  refine ee_bind (fun _ ho87 => ?_)
  refine ee_callV (as := [.int v68]) (st := []) dWriter_headBoxes_87 (t_fWriter_closeBox l0 v68 w81) my_fWriter_closeBox.1 (Nat.le_of_ble_eq_true rfl) my_fWriter_closeBox.2 rfl cf_9.1 rfl (p_obj_eq.mp ho87) gw_397 gw_398 gw_399 ⟨Nat.le_of_ble_eq_true rfl, Nat.le_of_ble_eq_true rfl⟩ (Nat.le_of_ble_eq_true rfl) (fun rv87 w87 _ => ?_)
  refine ee_kV ?_
  exact ee_vret rfl dWriter_headBoxes_90
def fWriter_code (l0 : Nat) (l1 : Int32) (w : PW) : PX := (p_getR w l0 9 0).bind fun v1 => (p_obj w v1 2).bind fun _ => p_call (fBytes_append v1 (255 : Int32) w) <| p_kI fun v7 w7 => (p_getR w7 l0 9 0).bind fun v12 => (p_obj w7 v12 2).bind fun _ => p_call (fBytes_append v12 l1 w7) <| p_kI fun v16 w16 => some (.inl none, w16)
set_option maxRecDepth 20000 in
set_option maxHeartbeats 2000000 in
theorem t_fWriter_code {Γ : PG} : ∀ (l0 : Nat) (l1 : Int32) (w : PW), EE Γ MWriter_code 0 (lv_args 0 [.ref l0, .int l1]) [] w (fWriter_code l0 l1 w) := by
  intro l0 l1 w
  unfold fWriter_code
  show EE Γ MWriter_code 0 [(0, .ref l0), (1, .int l1)] [] w _
  refine ee_aload_n 0 dWriter_code_0 rfl ?_
  refine ee_getR dWriter_code_1 lfWriter_14 (fun v1 _ => ?_)
  refine ee_sipush (v := (255 : Int32)) dWriter_code_4 (by decide) ?_
  refine ee_bind (fun _ ho7 => ?_)
  refine ee_callV (as := [.int (255 : Int32)]) (st := []) dWriter_code_7 (t_fBytes_append v1 (255 : Int32) w) my_fBytes_append.1 (Nat.le_of_ble_eq_true rfl) my_fBytes_append.2 rfl cf_2.1 rfl (p_obj_eq.mp ho7) gw_430 gw_378 gw_379 ⟨Nat.le_of_ble_eq_true rfl, Nat.le_of_ble_eq_true rfl⟩ (Nat.le_of_ble_eq_true rfl) (fun rv7 w7 _ => ?_)
  refine ee_kI (fun v7 => ?_)
  refine ee_pop dWriter_code_10 rfl ?_
  refine ee_aload_n 0 dWriter_code_11 rfl ?_
  refine ee_getR dWriter_code_12 lfWriter_14 (fun v12 _ => ?_)
  refine ee_iload_n 1 dWriter_code_15 rfl ?_
  refine ee_bind (fun _ ho16 => ?_)
  refine ee_callV (as := [.int l1]) (st := []) dWriter_code_16 (t_fBytes_append v12 l1 w7) my_fBytes_append.1 (Nat.le_of_ble_eq_true rfl) my_fBytes_append.2 rfl cf_2.1 rfl (p_obj_eq.mp ho16) gw_430 gw_378 gw_379 ⟨Nat.le_of_ble_eq_true rfl, Nat.le_of_ble_eq_true rfl⟩ (Nat.le_of_ble_eq_true rfl) (fun rv16 w16 _ => ?_)
  refine ee_kI (fun v16 => ?_)
  refine ee_pop dWriter_code_19 rfl ?_
  exact ee_vret rfl dWriter_code_20
def fWriter_sizes_135 : Nat → Nat → Nat → Int32 → Int32 → PW → PX
  | 0, _, _, _, _, _ => none
  | n9 + 1, l0, l1, l2, l3, w => if l2 ≤ l3 then (some (.inl none, w)) else ((p_getR w l0 9 0).bind fun v141 => (p_obj w l1 7).bind fun _ => p_call (fSettings_valueOf l1 (3 : Int32) (-1 : Int32) l3 w) <| p_kI fun v148 w148 => (p_obj w148 v141 2).bind fun _ => p_call (fBytes_append v141 (v148 - (1 : Int32)) w148) <| p_kI fun v153 w153 => (p_getR w153 l0 9 0).bind fun v158 => (p_obj w153 v158 2).bind fun _ => p_call (fBytes_append v158 (1 : Int32) w153) <| p_kI fun v162 w162 => (p_getR w162 l0 9 0).bind fun v167 => (p_obj w162 v167 2).bind fun _ => p_call (fBytes_append v167 (1 : Int32) w162) <| p_kI fun v171 w171 => p_let (l3 + (1 : Int32)) fun (l3_175 : Int32) => (fWriter_sizes_135 n9) l0 l1 l2 l3_175 w171)
set_option maxRecDepth 20000 in
set_option maxHeartbeats 2000000 in
theorem t_fWriter_sizes_135 {Γ : PG} : ∀ (n9 : Nat) (l0 : Nat) (l1 : Nat) (l2 : Int32) (l3 : Int32) (w : PW), EE Γ MWriter_sizes 135 [(0, .ref l0), (1, .ref l1), (2, .int l2), (3, .int l3)] [] w (fWriter_sizes_135 n9 l0 l1 l2 l3 w) := by
  intro n9
  induction n9 with
  | zero => intro l0 l1 l2 l3 w; exact ee_none
  | succ n9 ih =>
    intro l0 l1 l2 l3 w
    unfold fWriter_sizes_135
    refine ee_iload_n 3 dWriter_sizes_135 rfl ?_
    refine ee_iload_n 2 dWriter_sizes_136 rfl ?_
    refine ee_icmp_ge (tgt := 181) dWriter_sizes_137 (by decide) (fun h137 => ?_) (fun h137 => ?_)
    · exact ee_vret rfl dWriter_sizes_181
    · refine ee_aload_n 0 dWriter_sizes_140 rfl ?_
      refine ee_getR dWriter_sizes_141 lfWriter_14 (fun v141 _ => ?_)
      refine ee_aload_n 1 dWriter_sizes_144 rfl ?_
      refine ee_iconst (v := (3 : Int32)) dWriter_sizes_145 (by decide) ?_
      refine ee_iconst (v := (-1 : Int32)) dWriter_sizes_146 (by decide) ?_
      refine ee_iload_n 3 dWriter_sizes_147 rfl ?_
      refine ee_bind (fun _ ho148 => ?_)
      refine ee_callV (as := [.int (3 : Int32), .int (-1 : Int32), .int l3]) (st := [.ref v141]) dWriter_sizes_148 (t_fSettings_valueOf l1 (3 : Int32) (-1 : Int32) l3 w) my_fSettings_valueOf.1 (Nat.le_of_ble_eq_true rfl) my_fSettings_valueOf.2 rfl cf_7.1 rfl (p_obj_eq.mp ho148) gw_416 gw_417 gw_418 ⟨Nat.le_of_ble_eq_true rfl, Nat.le_of_ble_eq_true rfl⟩ (Nat.le_of_ble_eq_true rfl) (fun rv148 w148 _ => ?_)
      refine ee_kI (fun v148 => ?_)
      refine ee_iconst (v := (1 : Int32)) dWriter_sizes_151 (by decide) ?_
      refine ee_isub dWriter_sizes_152 ?_
      refine ee_bind (fun _ ho153 => ?_)
      refine ee_callV (as := [.int (v148 - (1 : Int32))]) (st := []) dWriter_sizes_153 (t_fBytes_append v141 (v148 - (1 : Int32)) w148) my_fBytes_append.1 (Nat.le_of_ble_eq_true rfl) my_fBytes_append.2 rfl cf_2.1 rfl (p_obj_eq.mp ho153) gw_430 gw_378 gw_379 ⟨Nat.le_of_ble_eq_true rfl, Nat.le_of_ble_eq_true rfl⟩ (Nat.le_of_ble_eq_true rfl) (fun rv153 w153 _ => ?_)
      refine ee_kI (fun v153 => ?_)
      refine ee_pop dWriter_sizes_156 rfl ?_
      refine ee_aload_n 0 dWriter_sizes_157 rfl ?_
      refine ee_getR dWriter_sizes_158 lfWriter_14 (fun v158 _ => ?_)
      refine ee_iconst (v := (1 : Int32)) dWriter_sizes_161 (by decide) ?_
      refine ee_bind (fun _ ho162 => ?_)
      refine ee_callV (as := [.int (1 : Int32)]) (st := []) dWriter_sizes_162 (t_fBytes_append v158 (1 : Int32) w153) my_fBytes_append.1 (Nat.le_of_ble_eq_true rfl) my_fBytes_append.2 rfl cf_2.1 rfl (p_obj_eq.mp ho162) gw_430 gw_378 gw_379 ⟨Nat.le_of_ble_eq_true rfl, Nat.le_of_ble_eq_true rfl⟩ (Nat.le_of_ble_eq_true rfl) (fun rv162 w162 _ => ?_)
      refine ee_kI (fun v162 => ?_)
      refine ee_pop dWriter_sizes_165 rfl ?_
      refine ee_aload_n 0 dWriter_sizes_166 rfl ?_
      refine ee_getR dWriter_sizes_167 lfWriter_14 (fun v167 _ => ?_)
      refine ee_iconst (v := (1 : Int32)) dWriter_sizes_170 (by decide) ?_
      refine ee_bind (fun _ ho171 => ?_)
      refine ee_callV (as := [.int (1 : Int32)]) (st := []) dWriter_sizes_171 (t_fBytes_append v167 (1 : Int32) w162) my_fBytes_append.1 (Nat.le_of_ble_eq_true rfl) my_fBytes_append.2 rfl cf_2.1 rfl (p_obj_eq.mp ho171) gw_430 gw_378 gw_379 ⟨Nat.le_of_ble_eq_true rfl, Nat.le_of_ble_eq_true rfl⟩ (Nat.le_of_ble_eq_true rfl) (fun rv171 w171 _ => ?_)
      refine ee_kI (fun v171 => ?_)
      refine ee_pop dWriter_sizes_174 rfl ?_
      refine ee_iinc 3 dWriter_sizes_175 rfl (e := (1 : Int32)) (by decide) (Nat.le_of_ble_eq_true rfl) (fun l3_175 _ => ?_)
      refine ee_lv (lv2 := [(3, .int l3_175), (0, .ref l0), (1, .ref l1), (2, .int l2)]) rfl ?_
      refine ee_goto (tgt := 135) dWriter_sizes_178 (by decide) ?_
      refine ee_pick [1, 2, 3, 0] rfl ?_
      exact ih _ _ _ _ w171
def fWriter_sizes (l0 : Nat) (l1 : Nat) (w : PW) : PX := (p_getR w l1 7 0).bind fun v1 => (p_ald w v1 0 (2 : Int32)).bind fun v5 => (p_obj w l0 9).bind fun _ => p_call (fWriter_code l0 (81 : Int32) w) <| p_kV fun w10 => (p_getR w10 l0 9 0).bind fun v14 => (p_obj w10 v14 2).bind fun _ => p_call (fBytes_appendNumber v14 ((38 : Int32) + ((3 : Int32) * v5)) (2 : Int32) w10) <| p_kV fun w24 => (p_getR w24 l0 9 0).bind fun v28 => (p_obj w24 v28 2).bind fun _ => p_call (fBytes_appendNumber v28 (0 : Int32) (2 : Int32) w24) <| p_kV fun w33 => (p_getR w33 l0 9 0).bind fun v37 => (p_getR w33 l1 7 0).bind fun v41 => (p_ald w33 v41 0 (0 : Int32)).bind fun v45 => (p_obj w33 v37 2).bind fun _ => p_call (fBytes_appendNumber v37 v45 (4 : Int32) w33) <| p_kV fun w47 => (p_getR w47 l0 9 0).bind fun v51 => (p_getR w47 l1 7 0).bind fun v55 => (p_ald w47 v55 0 (1 : Int32)).bind fun v59 => (p_obj w47 v51 2).bind fun _ => p_call (fBytes_appendNumber v51 v59 (4 : Int32) w47) <| p_kV fun w61 => (p_getR w61 l0 9 0).bind fun v65 => (p_obj w61 v65 2).bind fun _ => p_call (fBytes_appendNumber v65 (0 : Int32) (4 : Int32) w61) <| p_kV fun w70 => (p_getR w70 l0 9 0).bind fun v74 => (p_obj w70 v74 2).bind fun _ => p_call (fBytes_appendNumber v74 (0 : Int32) (4 : Int32) w70) <| p_kV fun w79 => (p_getR w79 l0 9 0).bind fun v83 => (p_getI w79 l1 7 5).bind fun v87 => (p_obj w79 v83 2).bind fun _ => p_call (fBytes_appendNumber v83 v87 (4 : Int32) w79) <| p_kV fun w91 => (p_getR w91 l0 9 0).bind fun v95 => (p_getI w91 l1 7 6).bind fun v99 => (p_obj w91 v95 2).bind fun _ => p_call (fBytes_appendNumber v95 v99 (4 : Int32) w91) <| p_kV fun w103 => (p_getR w103 l0 9 0).bind fun v107 => (p_obj w103 v107 2).bind fun _ => p_call (fBytes_appendNumber v107 (0 : Int32) (4 : Int32) w103) <| p_kV fun w112 => (p_getR w112 l0 9 0).bind fun v116 => (p_obj w112 v116 2).bind fun _ => p_call (fBytes_appendNumber v116 (0 : Int32) (4 : Int32) w112) <| p_kV fun w121 => (p_getR w121 l0 9 0).bind fun v125 => (p_obj w121 v125 2).bind fun _ => p_call (fBytes_appendNumber v125 v5 (2 : Int32) w121) <| p_kV fun w130 => fWriter_sizes_135 FUEL l0 l1 v5 (0 : Int32) w130
set_option maxRecDepth 20000 in
set_option maxHeartbeats 2000000 in
theorem t_fWriter_sizes {Γ : PG} : ∀ (l0 : Nat) (l1 : Nat) (w : PW), EE Γ MWriter_sizes 0 (lv_args 0 [.ref l0, .ref l1]) [] w (fWriter_sizes l0 l1 w) := by
  intro l0 l1 w
  unfold fWriter_sizes
  show EE Γ MWriter_sizes 0 [(0, .ref l0), (1, .ref l1)] [] w _
  refine ee_aload_n 1 dWriter_sizes_0 rfl ?_
  refine ee_getR dWriter_sizes_1 lfWriter_51 (fun v1 _ => ?_)
  refine ee_iconst (v := (2 : Int32)) dWriter_sizes_4 (by decide) ?_
  refine ee_iald (t := 0) dWriter_sizes_5 rfl (fun v5 _ => ?_)
  refine ee_istore_n (lv2 := [(2, .int v5), (0, .ref l0), (1, .ref l1)]) dWriter_sizes_6 (Nat.le_of_ble_eq_true rfl) rfl ?_
  refine ee_aload_n 1 dWriter_sizes_7 rfl ?_
  refine ee_bipush (v := (81 : Int32)) dWriter_sizes_8 (by decide) ?_
  refine ee_bind (fun _ ho10 => ?_)
  refine ee_callV (as := [.int (81 : Int32)]) (st := []) dWriter_sizes_10 (t_fWriter_code l0 (81 : Int32) w) my_fWriter_code.1 (Nat.le_of_ble_eq_true rfl) my_fWriter_code.2 rfl cf_9.1 rfl (p_obj_eq.mp ho10) gw_468 gw_469 gw_470 ⟨Nat.le_of_ble_eq_true rfl, Nat.le_of_ble_eq_true rfl⟩ (Nat.le_of_ble_eq_true rfl) (fun rv10 w10 _ => ?_)
  refine ee_kV ?_
  refine ee_aload_n 1 dWriter_sizes_13 rfl ?_
  refine ee_getR dWriter_sizes_14 lfWriter_14 (fun v14 _ => ?_)
  refine ee_bipush (v := (38 : Int32)) dWriter_sizes_17 (by decide) ?_
  refine ee_iconst (v := (3 : Int32)) dWriter_sizes_19 (by decide) ?_
  refine ee_iload_n 0 dWriter_sizes_20 rfl ?_
  refine ee_imul dWriter_sizes_21 ?_
  refine ee_iadd dWriter_sizes_22 ?_
  refine ee_iconst (v := (2 : Int32)) dWriter_sizes_23 (by decide) ?_
  refine ee_bind (fun _ ho24 => ?_)
  refine ee_callV (as := [.int ((38 : Int32) + ((3 : Int32) * v5)), .int (2 : Int32)]) (st := []) dWriter_sizes_24 (t_fBytes_appendNumber v14 ((38 : Int32) + ((3 : Int32) * v5)) (2 : Int32) w10) my_fBytes_appendNumber.1 (Nat.le_of_ble_eq_true rfl) my_fBytes_appendNumber.2 rfl cf_2.1 rfl (p_obj_eq.mp ho24) gw_373 gw_374 gw_375 ⟨Nat.le_of_ble_eq_true rfl, Nat.le_of_ble_eq_true rfl⟩ (Nat.le_of_ble_eq_true rfl) (fun rv24 w24 _ => ?_)
  refine ee_kV ?_
  refine ee_aload_n 1 dWriter_sizes_27 rfl ?_
  refine ee_getR dWriter_sizes_28 lfWriter_14 (fun v28 _ => ?_)
  refine ee_iconst (v := (0 : Int32)) dWriter_sizes_31 (by decide) ?_
  refine ee_iconst (v := (2 : Int32)) dWriter_sizes_32 (by decide) ?_
  refine ee_bind (fun _ ho33 => ?_)
  refine ee_callV (as := [.int (0 : Int32), .int (2 : Int32)]) (st := []) dWriter_sizes_33 (t_fBytes_appendNumber v28 (0 : Int32) (2 : Int32) w24) my_fBytes_appendNumber.1 (Nat.le_of_ble_eq_true rfl) my_fBytes_appendNumber.2 rfl cf_2.1 rfl (p_obj_eq.mp ho33) gw_373 gw_374 gw_375 ⟨Nat.le_of_ble_eq_true rfl, Nat.le_of_ble_eq_true rfl⟩ (Nat.le_of_ble_eq_true rfl) (fun rv33 w33 _ => ?_)
  refine ee_kV ?_
  refine ee_aload_n 1 dWriter_sizes_36 rfl ?_
  refine ee_getR dWriter_sizes_37 lfWriter_14 (fun v37 _ => ?_)
  refine ee_aload_n 2 dWriter_sizes_40 rfl ?_
  refine ee_getR dWriter_sizes_41 lfWriter_51 (fun v41 _ => ?_)
  refine ee_iconst (v := (0 : Int32)) dWriter_sizes_44 (by decide) ?_
  refine ee_iald (t := 0) dWriter_sizes_45 rfl (fun v45 _ => ?_)
  refine ee_iconst (v := (4 : Int32)) dWriter_sizes_46 (by decide) ?_
  refine ee_bind (fun _ ho47 => ?_)
  refine ee_callV (as := [.int v45, .int (4 : Int32)]) (st := []) dWriter_sizes_47 (t_fBytes_appendNumber v37 v45 (4 : Int32) w33) my_fBytes_appendNumber.1 (Nat.le_of_ble_eq_true rfl) my_fBytes_appendNumber.2 rfl cf_2.1 rfl (p_obj_eq.mp ho47) gw_373 gw_374 gw_375 ⟨Nat.le_of_ble_eq_true rfl, Nat.le_of_ble_eq_true rfl⟩ (Nat.le_of_ble_eq_true rfl) (fun rv47 w47 _ => ?_)
  refine ee_kV ?_
  refine ee_aload_n 1 dWriter_sizes_50 rfl ?_
  refine ee_getR dWriter_sizes_51 lfWriter_14 (fun v51 _ => ?_)
  refine ee_aload_n 2 dWriter_sizes_54 rfl ?_
  refine ee_getR dWriter_sizes_55 lfWriter_51 (fun v55 _ => ?_)
  refine ee_iconst (v := (1 : Int32)) dWriter_sizes_58 (by decide) ?_
  refine ee_iald (t := 0) dWriter_sizes_59 rfl (fun v59 _ => ?_)
  refine ee_iconst (v := (4 : Int32)) dWriter_sizes_60 (by decide) ?_
  refine ee_bind (fun _ ho61 => ?_)
  refine ee_callV (as := [.int v59, .int (4 : Int32)]) (st := []) dWriter_sizes_61 (t_fBytes_appendNumber v51 v59 (4 : Int32) w47) my_fBytes_appendNumber.1 (Nat.le_of_ble_eq_true rfl) my_fBytes_appendNumber.2 rfl cf_2.1 rfl (p_obj_eq.mp ho61) gw_373 gw_374 gw_375 ⟨Nat.le_of_ble_eq_true rfl, Nat.le_of_ble_eq_true rfl⟩ (Nat.le_of_ble_eq_true rfl) (fun rv61 w61 _ => ?_)
  refine ee_kV ?_
  refine ee_aload_n 1 dWriter_sizes_64 rfl ?_
  refine ee_getR dWriter_sizes_65 lfWriter_14 (fun v65 _ => ?_)
  refine ee_iconst (v := (0 : Int32)) dWriter_sizes_68 (by decide) ?_
  refine ee_iconst (v := (4 : Int32)) dWriter_sizes_69 (by decide) ?_
  refine ee_bind (fun _ ho70 => ?_)
  refine ee_callV (as := [.int (0 : Int32), .int (4 : Int32)]) (st := []) dWriter_sizes_70 (t_fBytes_appendNumber v65 (0 : Int32) (4 : Int32) w61) my_fBytes_appendNumber.1 (Nat.le_of_ble_eq_true rfl) my_fBytes_appendNumber.2 rfl cf_2.1 rfl (p_obj_eq.mp ho70) gw_373 gw_374 gw_375 ⟨Nat.le_of_ble_eq_true rfl, Nat.le_of_ble_eq_true rfl⟩ (Nat.le_of_ble_eq_true rfl) (fun rv70 w70 _ => ?_)
  refine ee_kV ?_
  refine ee_aload_n 1 dWriter_sizes_73 rfl ?_
  refine ee_getR dWriter_sizes_74 lfWriter_14 (fun v74 _ => ?_)
  refine ee_iconst (v := (0 : Int32)) dWriter_sizes_77 (by decide) ?_
  refine ee_iconst (v := (4 : Int32)) dWriter_sizes_78 (by decide) ?_
  refine ee_bind (fun _ ho79 => ?_)
  refine ee_callV (as := [.int (0 : Int32), .int (4 : Int32)]) (st := []) dWriter_sizes_79 (t_fBytes_appendNumber v74 (0 : Int32) (4 : Int32) w70) my_fBytes_appendNumber.1 (Nat.le_of_ble_eq_true rfl) my_fBytes_appendNumber.2 rfl cf_2.1 rfl (p_obj_eq.mp ho79) gw_373 gw_374 gw_375 ⟨Nat.le_of_ble_eq_true rfl, Nat.le_of_ble_eq_true rfl⟩ (Nat.le_of_ble_eq_true rfl) (fun rv79 w79 _ => ?_)
  refine ee_kV ?_
  refine ee_aload_n 1 dWriter_sizes_82 rfl ?_
  refine ee_getR dWriter_sizes_83 lfWriter_14 (fun v83 _ => ?_)
  refine ee_aload_n 2 dWriter_sizes_86 rfl ?_
  refine ee_getI dWriter_sizes_87 lfWriter_116 (fun v87 _ => ?_)
  refine ee_iconst (v := (4 : Int32)) dWriter_sizes_90 (by decide) ?_
  refine ee_bind (fun _ ho91 => ?_)
  refine ee_callV (as := [.int v87, .int (4 : Int32)]) (st := []) dWriter_sizes_91 (t_fBytes_appendNumber v83 v87 (4 : Int32) w79) my_fBytes_appendNumber.1 (Nat.le_of_ble_eq_true rfl) my_fBytes_appendNumber.2 rfl cf_2.1 rfl (p_obj_eq.mp ho91) gw_373 gw_374 gw_375 ⟨Nat.le_of_ble_eq_true rfl, Nat.le_of_ble_eq_true rfl⟩ (Nat.le_of_ble_eq_true rfl) (fun rv91 w91 _ => ?_)
  refine ee_kV ?_
  refine ee_aload_n 1 dWriter_sizes_94 rfl ?_
  refine ee_getR dWriter_sizes_95 lfWriter_14 (fun v95 _ => ?_)
  refine ee_aload_n 2 dWriter_sizes_98 rfl ?_
  refine ee_getI dWriter_sizes_99 lfWriter_119 (fun v99 _ => ?_)
  refine ee_iconst (v := (4 : Int32)) dWriter_sizes_102 (by decide) ?_
  refine ee_bind (fun _ ho103 => ?_)
  refine ee_callV (as := [.int v99, .int (4 : Int32)]) (st := []) dWriter_sizes_103 (t_fBytes_appendNumber v95 v99 (4 : Int32) w91) my_fBytes_appendNumber.1 (Nat.le_of_ble_eq_true rfl) my_fBytes_appendNumber.2 rfl cf_2.1 rfl (p_obj_eq.mp ho103) gw_373 gw_374 gw_375 ⟨Nat.le_of_ble_eq_true rfl, Nat.le_of_ble_eq_true rfl⟩ (Nat.le_of_ble_eq_true rfl) (fun rv103 w103 _ => ?_)
  refine ee_kV ?_
  refine ee_aload_n 1 dWriter_sizes_106 rfl ?_
  refine ee_getR dWriter_sizes_107 lfWriter_14 (fun v107 _ => ?_)
  refine ee_iconst (v := (0 : Int32)) dWriter_sizes_110 (by decide) ?_
  refine ee_iconst (v := (4 : Int32)) dWriter_sizes_111 (by decide) ?_
  refine ee_bind (fun _ ho112 => ?_)
  refine ee_callV (as := [.int (0 : Int32), .int (4 : Int32)]) (st := []) dWriter_sizes_112 (t_fBytes_appendNumber v107 (0 : Int32) (4 : Int32) w103) my_fBytes_appendNumber.1 (Nat.le_of_ble_eq_true rfl) my_fBytes_appendNumber.2 rfl cf_2.1 rfl (p_obj_eq.mp ho112) gw_373 gw_374 gw_375 ⟨Nat.le_of_ble_eq_true rfl, Nat.le_of_ble_eq_true rfl⟩ (Nat.le_of_ble_eq_true rfl) (fun rv112 w112 _ => ?_)
  refine ee_kV ?_
  refine ee_aload_n 1 dWriter_sizes_115 rfl ?_
  refine ee_getR dWriter_sizes_116 lfWriter_14 (fun v116 _ => ?_)
  refine ee_iconst (v := (0 : Int32)) dWriter_sizes_119 (by decide) ?_
  refine ee_iconst (v := (4 : Int32)) dWriter_sizes_120 (by decide) ?_
  refine ee_bind (fun _ ho121 => ?_)
  refine ee_callV (as := [.int (0 : Int32), .int (4 : Int32)]) (st := []) dWriter_sizes_121 (t_fBytes_appendNumber v116 (0 : Int32) (4 : Int32) w112) my_fBytes_appendNumber.1 (Nat.le_of_ble_eq_true rfl) my_fBytes_appendNumber.2 rfl cf_2.1 rfl (p_obj_eq.mp ho121) gw_373 gw_374 gw_375 ⟨Nat.le_of_ble_eq_true rfl, Nat.le_of_ble_eq_true rfl⟩ (Nat.le_of_ble_eq_true rfl) (fun rv121 w121 _ => ?_)
  refine ee_kV ?_
  refine ee_aload_n 1 dWriter_sizes_124 rfl ?_
  refine ee_getR dWriter_sizes_125 lfWriter_14 (fun v125 _ => ?_)
  refine ee_iload_n 0 dWriter_sizes_128 rfl ?_
  refine ee_iconst (v := (2 : Int32)) dWriter_sizes_129 (by decide) ?_
  refine ee_bind (fun _ ho130 => ?_)
  refine ee_callV (as := [.int v5, .int (2 : Int32)]) (st := []) dWriter_sizes_130 (t_fBytes_appendNumber v125 v5 (2 : Int32) w121) my_fBytes_appendNumber.1 (Nat.le_of_ble_eq_true rfl) my_fBytes_appendNumber.2 rfl cf_2.1 rfl (p_obj_eq.mp ho130) gw_373 gw_374 gw_375 ⟨Nat.le_of_ble_eq_true rfl, Nat.le_of_ble_eq_true rfl⟩ (Nat.le_of_ble_eq_true rfl) (fun rv130 w130 _ => ?_)
  refine ee_kV ?_
  refine ee_iconst (v := (0 : Int32)) dWriter_sizes_133 (by decide) ?_
  refine ee_istore_n (lv2 := [(3, .int (0 : Int32)), (2, .int v5), (0, .ref l0), (1, .ref l1)]) dWriter_sizes_134 (Nat.le_of_ble_eq_true rfl) rfl ?_
  refine ee_pick [2, 3, 1, 0] rfl ?_
  exact t_fWriter_sizes_135 FUEL _ _ _ _ w130
def fWriter_style_88 (l0 : Nat) (l1 : Nat) (l2 : Int32) (l3 : Int32) (w : PW) : PX := (p_obj w l1 7).bind fun _ => p_call (fSettings_valueOf l1 (7 : Int32) l2 l3 w) <| p_kI fun v93 w93 => p_let ((v93 - (2 : Int32))) fun (l4_98 : Int32) => (p_getR w93 l0 9 0).bind fun v101 => (p_obj w93 v101 2).bind fun _ => p_call (fBytes_append v101 (0 : Int32) w93) <| p_kI fun v105 w105 => (p_getR w105 l0 9 0).bind fun v110 => (p_obj w105 l1 7).bind fun _ => p_call (fSettings_valueOf l1 (6 : Int32) l2 l3 w105) <| p_kI fun v118 w118 => (p_obj w118 v110 2).bind fun _ => p_call (fBytes_append v110 v118 w118) <| p_kI fun v121 w121 => (p_getR w121 l0 9 0).bind fun v126 => (p_obj w121 v126 2).bind fun _ => p_call (fBytes_append v126 l4_98 w121) <| p_kI fun v131 w131 => (p_getR w131 l0 9 0).bind fun v136 => (p_obj w131 v136 2).bind fun _ => p_call (fBytes_append v136 l4_98 w131) <| p_kI fun v141 w141 => (p_getR w141 l0 9 0).bind fun v146 => (p_obj w141 v146 2).bind fun _ => p_call (fBytes_append v146 (0 : Int32) w141) <| p_kI fun v150 w150 => (p_getR w150 l0 9 0).bind fun v155 => (p_obj w150 l1 7).bind fun _ => p_call (fSettings_valueOf l1 (8 : Int32) l2 l3 w150) <| p_kI fun v163 w163 => (p_obj w163 v155 2).bind fun _ => p_call (fBytes_append v155 v163 w163) <| p_kI fun v166 w166 => some (.inl none, w166)
set_option maxRecDepth 20000 in
set_option maxHeartbeats 2000000 in
theorem t_fWriter_style_88 {Γ : PG} : ∀ (l0 : Nat) (l1 : Nat) (l2 : Int32) (l3 : Int32) (w : PW), EE Γ MWriter_style 88 [(0, .ref l0), (1, .ref l1), (2, .int l2), (3, .int l3)] [] w (fWriter_style_88 l0 l1 l2 l3 w) := by
  intro l0 l1 l2 l3 w
  unfold fWriter_style_88
  refine ee_aload_n 1 dWriter_style_88 rfl ?_
  refine ee_bipush (v := (7 : Int32)) dWriter_style_89 (by decide) ?_
  refine ee_iload_n 2 dWriter_style_91 rfl ?_
  refine ee_iload_n 3 dWriter_style_92 rfl ?_
  refine ee_bind (fun _ ho93 => ?_)
  refine ee_callV (as := [.int (7 : Int32), .int l2, .int l3]) (st := []) dWriter_style_93 (t_fSettings_valueOf l1 (7 : Int32) l2 l3 w) my_fSettings_valueOf.1 (Nat.le_of_ble_eq_true rfl) my_fSettings_valueOf.2 rfl cf_7.1 rfl (p_obj_eq.mp ho93) gw_416 gw_417 gw_418 ⟨Nat.le_of_ble_eq_true rfl, Nat.le_of_ble_eq_true rfl⟩ (Nat.le_of_ble_eq_true rfl) (fun rv93 w93 _ => ?_)
  refine ee_kI (fun v93 => ?_)
  refine ee_iconst (v := (2 : Int32)) dWriter_style_96 (by decide) ?_
  refine ee_isub dWriter_style_97 ?_
  refine ee_letI (fun l4_98 _ => ?_)
  refine ee_istore (lv2 := [(4, .int l4_98), (0, .ref l0), (1, .ref l1), (2, .int l2), (3, .int l3)]) dWriter_style_98 (Nat.le_of_ble_eq_true rfl) rfl ?_
  refine ee_aload_n 1 dWriter_style_100 rfl ?_
  refine ee_getR dWriter_style_101 lfWriter_14 (fun v101 _ => ?_)
  refine ee_iconst (v := (0 : Int32)) dWriter_style_104 (by decide) ?_
  refine ee_bind (fun _ ho105 => ?_)
  refine ee_callV (as := [.int (0 : Int32)]) (st := []) dWriter_style_105 (t_fBytes_append v101 (0 : Int32) w93) my_fBytes_append.1 (Nat.le_of_ble_eq_true rfl) my_fBytes_append.2 rfl cf_2.1 rfl (p_obj_eq.mp ho105) gw_430 gw_378 gw_379 ⟨Nat.le_of_ble_eq_true rfl, Nat.le_of_ble_eq_true rfl⟩ (Nat.le_of_ble_eq_true rfl) (fun rv105 w105 _ => ?_)
  refine ee_kI (fun v105 => ?_)
  refine ee_pop dWriter_style_108 rfl ?_
  refine ee_aload_n 1 dWriter_style_109 rfl ?_
  refine ee_getR dWriter_style_110 lfWriter_14 (fun v110 _ => ?_)
  refine ee_aload_n 2 dWriter_style_113 rfl ?_
  refine ee_bipush (v := (6 : Int32)) dWriter_style_114 (by decide) ?_
  refine ee_iload_n 3 dWriter_style_116 rfl ?_
  refine ee_iload_n 4 dWriter_style_117 rfl ?_
  refine ee_bind (fun _ ho118 => ?_)
  refine ee_callV (as := [.int (6 : Int32), .int l2, .int l3]) (st := [.ref v110]) dWriter_style_118 (t_fSettings_valueOf l1 (6 : Int32) l2 l3 w105) my_fSettings_valueOf.1 (Nat.le_of_ble_eq_true rfl) my_fSettings_valueOf.2 rfl cf_7.1 rfl (p_obj_eq.mp ho118) gw_416 gw_417 gw_418 ⟨Nat.le_of_ble_eq_true rfl, Nat.le_of_ble_eq_true rfl⟩ (Nat.le_of_ble_eq_true rfl) (fun rv118 w118 _ => ?_)
  refine ee_kI (fun v118 => ?_)
  refine ee_bind (fun _ ho121 => ?_)
  refine ee_callV (as := [.int v118]) (st := []) dWriter_style_121 (t_fBytes_append v110 v118 w118) my_fBytes_append.1 (Nat.le_of_ble_eq_true rfl) my_fBytes_append.2 rfl cf_2.1 rfl (p_obj_eq.mp ho121) gw_430 gw_378 gw_379 ⟨Nat.le_of_ble_eq_true rfl, Nat.le_of_ble_eq_true rfl⟩ (Nat.le_of_ble_eq_true rfl) (fun rv121 w121 _ => ?_)
  refine ee_kI (fun v121 => ?_)
  refine ee_pop dWriter_style_124 rfl ?_
  refine ee_aload_n 1 dWriter_style_125 rfl ?_
  refine ee_getR dWriter_style_126 lfWriter_14 (fun v126 _ => ?_)
  refine ee_iload 0 dWriter_style_129 rfl ?_
  refine ee_bind (fun _ ho131 => ?_)
  refine ee_callV (as := [.int l4_98]) (st := []) dWriter_style_131 (t_fBytes_append v126 l4_98 w121) my_fBytes_append.1 (Nat.le_of_ble_eq_true rfl) my_fBytes_append.2 rfl cf_2.1 rfl (p_obj_eq.mp ho131) gw_430 gw_378 gw_379 ⟨Nat.le_of_ble_eq_true rfl, Nat.le_of_ble_eq_true rfl⟩ (Nat.le_of_ble_eq_true rfl) (fun rv131 w131 _ => ?_)
  refine ee_kI (fun v131 => ?_)
  refine ee_pop dWriter_style_134 rfl ?_
  refine ee_aload_n 1 dWriter_style_135 rfl ?_
  refine ee_getR dWriter_style_136 lfWriter_14 (fun v136 _ => ?_)
  refine ee_iload 0 dWriter_style_139 rfl ?_
  refine ee_bind (fun _ ho141 => ?_)
  refine ee_callV (as := [.int l4_98]) (st := []) dWriter_style_141 (t_fBytes_append v136 l4_98 w131) my_fBytes_append.1 (Nat.le_of_ble_eq_true rfl) my_fBytes_append.2 rfl cf_2.1 rfl (p_obj_eq.mp ho141) gw_430 gw_378 gw_379 ⟨Nat.le_of_ble_eq_true rfl, Nat.le_of_ble_eq_true rfl⟩ (Nat.le_of_ble_eq_true rfl) (fun rv141 w141 _ => ?_)
  refine ee_kI (fun v141 => ?_)
  refine ee_pop dWriter_style_144 rfl ?_
  refine ee_aload_n 1 dWriter_style_145 rfl ?_
  refine ee_getR dWriter_style_146 lfWriter_14 (fun v146 _ => ?_)
  refine ee_iconst (v := (0 : Int32)) dWriter_style_149 (by decide) ?_
  refine ee_bind (fun _ ho150 => ?_)
  refine ee_callV (as := [.int (0 : Int32)]) (st := []) dWriter_style_150 (t_fBytes_append v146 (0 : Int32) w141) my_fBytes_append.1 (Nat.le_of_ble_eq_true rfl) my_fBytes_append.2 rfl cf_2.1 rfl (p_obj_eq.mp ho150) gw_430 gw_378 gw_379 ⟨Nat.le_of_ble_eq_true rfl, Nat.le_of_ble_eq_true rfl⟩ (Nat.le_of_ble_eq_true rfl) (fun rv150 w150 _ => ?_)
  refine ee_kI (fun v150 => ?_)
  refine ee_pop dWriter_style_153 rfl ?_
  refine ee_aload_n 1 dWriter_style_154 rfl ?_
  refine ee_getR dWriter_style_155 lfWriter_14 (fun v155 _ => ?_)
  refine ee_aload_n 2 dWriter_style_158 rfl ?_
  refine ee_bipush (v := (8 : Int32)) dWriter_style_159 (by decide) ?_
  refine ee_iload_n 3 dWriter_style_161 rfl ?_
  refine ee_iload_n 4 dWriter_style_162 rfl ?_
  refine ee_bind (fun _ ho163 => ?_)
  refine ee_callV (as := [.int (8 : Int32), .int l2, .int l3]) (st := [.ref v155]) dWriter_style_163 (t_fSettings_valueOf l1 (8 : Int32) l2 l3 w150) my_fSettings_valueOf.1 (Nat.le_of_ble_eq_true rfl) my_fSettings_valueOf.2 rfl cf_7.1 rfl (p_obj_eq.mp ho163) gw_416 gw_417 gw_418 ⟨Nat.le_of_ble_eq_true rfl, Nat.le_of_ble_eq_true rfl⟩ (Nat.le_of_ble_eq_true rfl) (fun rv163 w163 _ => ?_)
  refine ee_kI (fun v163 => ?_)
  refine ee_bind (fun _ ho166 => ?_)
  refine ee_callV (as := [.int v163]) (st := []) dWriter_style_166 (t_fBytes_append v155 v163 w163) my_fBytes_append.1 (Nat.le_of_ble_eq_true rfl) my_fBytes_append.2 rfl cf_2.1 rfl (p_obj_eq.mp ho166) gw_430 gw_378 gw_379 ⟨Nat.le_of_ble_eq_true rfl, Nat.le_of_ble_eq_true rfl⟩ (Nat.le_of_ble_eq_true rfl) (fun rv166 w166 _ => ?_)
  refine ee_kI (fun v166 => ?_)
  refine ee_pop dWriter_style_169 rfl ?_
  exact ee_vret rfl dWriter_style_170
def fWriter_style (l0 : Nat) (l1 : Nat) (l2 : Int32) (l3 : Int32) (w : PW) : PX := if ¬ l3 = (-1 : Int32) then ((p_obj w l0 9).bind fun _ => p_call (fWriter_code l0 (83 : Int32) w) <| p_kV fun w66 => (p_getR w66 l0 9 0).bind fun v70 => (p_obj w66 v70 2).bind fun _ => p_call (fBytes_appendNumber v70 (9 : Int32) (2 : Int32) w66) <| p_kV fun w76 => (p_getR w76 l0 9 0).bind fun v80 => (p_obj w76 v80 2).bind fun _ => p_call (fBytes_append v80 l3 w76) <| p_kI fun v84 w84 => fWriter_style_88 l0 l1 l2 l3 w84) else ((p_obj w l0 9).bind fun _ => p_call (fWriter_code l0 (82 : Int32) w) <| p_kV fun w8 => (p_getR w8 l0 9 0).bind fun v12 => (p_obj w8 v12 2).bind fun _ => p_call (fBytes_appendNumber v12 (12 : Int32) (2 : Int32) w8) <| p_kV fun w18 => (p_getR w18 l0 9 0).bind fun v22 => (p_obj w18 v22 2).bind fun _ => p_call (fBytes_append v22 (0 : Int32) w18) <| p_kI fun v26 w26 => (p_getR w26 l0 9 0).bind fun v31 => (p_obj w26 l1 7).bind fun _ => p_call (fSettings_valueOf l1 (4 : Int32) l2 (-1 : Int32) w26) <| p_kI fun v38 w38 => (p_obj w38 v31 2).bind fun _ => p_call (fBytes_append v31 v38 w38) <| p_kI fun v41 w41 => (p_getR w41 l0 9 0).bind fun v46 => (p_obj w41 l1 7).bind fun _ => p_call (fSettings_valueOf l1 (5 : Int32) l2 (-1 : Int32) w41) <| p_kI fun v53 w53 => (p_obj w53 v46 2).bind fun _ => p_call (fBytes_appendNumber v46 v53 (2 : Int32) w53) <| p_kV fun w57 => fWriter_style_88 l0 l1 l2 l3 w57)
set_option maxRecDepth 20000 in
set_option maxHeartbeats 2000000 in
theorem t_fWriter_style {Γ : PG} : ∀ (l0 : Nat) (l1 : Nat) (l2 : Int32) (l3 : Int32) (w : PW), EE Γ MWriter_style 0 (lv_args 0 [.ref l0, .ref l1, .int l2, .int l3]) [] w (fWriter_style l0 l1 l2 l3 w) := by
  intro l0 l1 l2 l3 w
  unfold fWriter_style
  show EE Γ MWriter_style 0 [(0, .ref l0), (1, .ref l1), (2, .int l2), (3, .int l3)] [] w _
  refine ee_iload_n 3 dWriter_style_0 rfl ?_
  refine ee_iconst (v := (-1 : Int32)) dWriter_style_1 (by decide) ?_
  refine ee_icmp_ne (tgt := 63) dWriter_style_2 (by decide) (fun h2 => ?_) (fun h2 => ?_)
  · refine ee_aload_n 0 dWriter_style_63 rfl ?_
    refine ee_bipush (v := (83 : Int32)) dWriter_style_64 (by decide) ?_
    refine ee_bind (fun _ ho66 => ?_)
    refine ee_callV (as := [.int (83 : Int32)]) (st := []) dWriter_style_66 (t_fWriter_code l0 (83 : Int32) w) my_fWriter_code.1 (Nat.le_of_ble_eq_true rfl) my_fWriter_code.2 rfl cf_9.1 rfl (p_obj_eq.mp ho66) gw_468 gw_469 gw_470 ⟨Nat.le_of_ble_eq_true rfl, Nat.le_of_ble_eq_true rfl⟩ (Nat.le_of_ble_eq_true rfl) (fun rv66 w66 _ => ?_)
    refine ee_kV ?_
    refine ee_aload_n 0 dWriter_style_69 rfl ?_
    refine ee_getR dWriter_style_70 lfWriter_14 (fun v70 _ => ?_)
    refine ee_bipush (v := (9 : Int32)) dWriter_style_73 (by decide) ?_
    refine ee_iconst (v := (2 : Int32)) dWriter_style_75 (by decide) ?_
    refine ee_bind (fun _ ho76 => ?_)
    refine ee_callV (as := [.int (9 : Int32), .int (2 : Int32)]) (st := []) dWriter_style_76 (t_fBytes_appendNumber v70 (9 : Int32) (2 : Int32) w66) my_fBytes_appendNumber.1 (Nat.le_of_ble_eq_true rfl) my_fBytes_appendNumber.2 rfl cf_2.1 rfl (p_obj_eq.mp ho76) gw_373 gw_374 gw_375 ⟨Nat.le_of_ble_eq_true rfl, Nat.le_of_ble_eq_true rfl⟩ (Nat.le_of_ble_eq_true rfl) (fun rv76 w76 _ => ?_)
    refine ee_kV ?_
    refine ee_aload_n 0 dWriter_style_79 rfl ?_
    refine ee_getR dWriter_style_80 lfWriter_14 (fun v80 _ => ?_)
    refine ee_iload_n 3 dWriter_style_83 rfl ?_
    refine ee_bind (fun _ ho84 => ?_)
    refine ee_callV (as := [.int l3]) (st := []) dWriter_style_84 (t_fBytes_append v80 l3 w76) my_fBytes_append.1 (Nat.le_of_ble_eq_true rfl) my_fBytes_append.2 rfl cf_2.1 rfl (p_obj_eq.mp ho84) gw_430 gw_378 gw_379 ⟨Nat.le_of_ble_eq_true rfl, Nat.le_of_ble_eq_true rfl⟩ (Nat.le_of_ble_eq_true rfl) (fun rv84 w84 _ => ?_)
    refine ee_kI (fun v84 => ?_)
    refine ee_pop dWriter_style_87 rfl ?_
    exact t_fWriter_style_88 _ _ _ _ w84
  · refine ee_aload_n 0 dWriter_style_5 rfl ?_
    refine ee_bipush (v := (82 : Int32)) dWriter_style_6 (by decide) ?_
    refine ee_bind (fun _ ho8 => ?_)
    refine ee_callV (as := [.int (82 : Int32)]) (st := []) dWriter_style_8 (t_fWriter_code l0 (82 : Int32) w) my_fWriter_code.1 (Nat.le_of_ble_eq_true rfl) my_fWriter_code.2 rfl cf_9.1 rfl (p_obj_eq.mp ho8) gw_468 gw_469 gw_470 ⟨Nat.le_of_ble_eq_true rfl, Nat.le_of_ble_eq_true rfl⟩ (Nat.le_of_ble_eq_true rfl) (fun rv8 w8 _ => ?_)
    refine ee_kV ?_
    refine ee_aload_n 0 dWriter_style_11 rfl ?_
    refine ee_getR dWriter_style_12 lfWriter_14 (fun v12 _ => ?_)
    refine ee_bipush (v := (12 : Int32)) dWriter_style_15 (by decide) ?_
    refine ee_iconst (v := (2 : Int32)) dWriter_style_17 (by decide) ?_
    refine ee_bind (fun _ ho18 => ?_)
    refine ee_callV (as := [.int (12 : Int32), .int (2 : Int32)]) (st := []) dWriter_style_18 (t_fBytes_appendNumber v12 (12 : Int32) (2 : Int32) w8) my_fBytes_appendNumber.1 (Nat.le_of_ble_eq_true rfl) my_fBytes_appendNumber.2 rfl cf_2.1 rfl (p_obj_eq.mp ho18) gw_373 gw_374 gw_375 ⟨Nat.le_of_ble_eq_true rfl, Nat.le_of_ble_eq_true rfl⟩ (Nat.le_of_ble_eq_true rfl) (fun rv18 w18 _ => ?_)
    refine ee_kV ?_
    refine ee_aload_n 0 dWriter_style_21 rfl ?_
    refine ee_getR dWriter_style_22 lfWriter_14 (fun v22 _ => ?_)
    refine ee_iconst (v := (0 : Int32)) dWriter_style_25 (by decide) ?_
    refine ee_bind (fun _ ho26 => ?_)
    refine ee_callV (as := [.int (0 : Int32)]) (st := []) dWriter_style_26 (t_fBytes_append v22 (0 : Int32) w18) my_fBytes_append.1 (Nat.le_of_ble_eq_true rfl) my_fBytes_append.2 rfl cf_2.1 rfl (p_obj_eq.mp ho26) gw_430 gw_378 gw_379 ⟨Nat.le_of_ble_eq_true rfl, Nat.le_of_ble_eq_true rfl⟩ (Nat.le_of_ble_eq_true rfl) (fun rv26 w26 _ => ?_)
    refine ee_kI (fun v26 => ?_)
    refine ee_pop dWriter_style_29 rfl ?_
    refine ee_aload_n 0 dWriter_style_30 rfl ?_
    refine ee_getR dWriter_style_31 lfWriter_14 (fun v31 _ => ?_)
    refine ee_aload_n 1 dWriter_style_34 rfl ?_
    refine ee_iconst (v := (4 : Int32)) dWriter_style_35 (by decide) ?_
    refine ee_iload_n 2 dWriter_style_36 rfl ?_
    refine ee_iconst (v := (-1 : Int32)) dWriter_style_37 (by decide) ?_
    refine ee_bind (fun _ ho38 => ?_)
    refine ee_callV (as := [.int (4 : Int32), .int l2, .int (-1 : Int32)]) (st := [.ref v31]) dWriter_style_38 (t_fSettings_valueOf l1 (4 : Int32) l2 (-1 : Int32) w26) my_fSettings_valueOf.1 (Nat.le_of_ble_eq_true rfl) my_fSettings_valueOf.2 rfl cf_7.1 rfl (p_obj_eq.mp ho38) gw_416 gw_417 gw_418 ⟨Nat.le_of_ble_eq_true rfl, Nat.le_of_ble_eq_true rfl⟩ (Nat.le_of_ble_eq_true rfl) (fun rv38 w38 _ => ?_)
    refine ee_kI (fun v38 => ?_)
    refine ee_bind (fun _ ho41 => ?_)
    refine ee_callV (as := [.int v38]) (st := []) dWriter_style_41 (t_fBytes_append v31 v38 w38) my_fBytes_append.1 (Nat.le_of_ble_eq_true rfl) my_fBytes_append.2 rfl cf_2.1 rfl (p_obj_eq.mp ho41) gw_430 gw_378 gw_379 ⟨Nat.le_of_ble_eq_true rfl, Nat.le_of_ble_eq_true rfl⟩ (Nat.le_of_ble_eq_true rfl) (fun rv41 w41 _ => ?_)
    refine ee_kI (fun v41 => ?_)
    refine ee_pop dWriter_style_44 rfl ?_
    refine ee_aload_n 0 dWriter_style_45 rfl ?_
    refine ee_getR dWriter_style_46 lfWriter_14 (fun v46 _ => ?_)
    refine ee_aload_n 1 dWriter_style_49 rfl ?_
    refine ee_iconst (v := (5 : Int32)) dWriter_style_50 (by decide) ?_
    refine ee_iload_n 2 dWriter_style_51 rfl ?_
    refine ee_iconst (v := (-1 : Int32)) dWriter_style_52 (by decide) ?_
    refine ee_bind (fun _ ho53 => ?_)
    refine ee_callV (as := [.int (5 : Int32), .int l2, .int (-1 : Int32)]) (st := [.ref v46]) dWriter_style_53 (t_fSettings_valueOf l1 (5 : Int32) l2 (-1 : Int32) w41) my_fSettings_valueOf.1 (Nat.le_of_ble_eq_true rfl) my_fSettings_valueOf.2 rfl cf_7.1 rfl (p_obj_eq.mp ho53) gw_416 gw_417 gw_418 ⟨Nat.le_of_ble_eq_true rfl, Nat.le_of_ble_eq_true rfl⟩ (Nat.le_of_ble_eq_true rfl) (fun rv53 w53 _ => ?_)
    refine ee_kI (fun v53 => ?_)
    refine ee_iconst (v := (2 : Int32)) dWriter_style_56 (by decide) ?_
    refine ee_bind (fun _ ho57 => ?_)
    refine ee_callV (as := [.int v53, .int (2 : Int32)]) (st := []) dWriter_style_57 (t_fBytes_appendNumber v46 v53 (2 : Int32) w53) my_fBytes_appendNumber.1 (Nat.le_of_ble_eq_true rfl) my_fBytes_appendNumber.2 rfl cf_2.1 rfl (p_obj_eq.mp ho57) gw_373 gw_374 gw_375 ⟨Nat.le_of_ble_eq_true rfl, Nat.le_of_ble_eq_true rfl⟩ (Nat.le_of_ble_eq_true rfl) (fun rv57 w57 _ => ?_)
    refine ee_kV ?_
    refine ee_goto (tgt := 88) dWriter_style_60 (by decide) ?_
    exact t_fWriter_style_88 _ _ _ _ w57
