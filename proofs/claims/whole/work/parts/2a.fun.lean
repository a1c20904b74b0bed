def fBytes_init (l0 : Nat) (l1 : Int32) (w : PW) : PX := p_newA w 1 1 (32 : Int32) fun v7 w7 => (p_put w7 l0 2 1 (.ref v7)).bind fun w9 => (p_put w9 l0 2 2 (.int (0 : Int32))).bind fun w14 => (p_put w14 l0 2 0 (.int l1)).bind fun w19 => some (.inl none, w19)
set_option maxRecDepth 20000 in
set_option maxHeartbeats 2000000 in
theorem t_fBytes_init {Γ : PG} : ∀ (l0 : Nat) (l1 : Int32) (w : PW), EE Γ MBytes_init 0 (lv_args 0 [.ref l0, .int l1]) [] w (fBytes_init l0 l1 w) := by
  intro l0 l1 w
  unfold fBytes_init
  show EE Γ MBytes_init 0 [(0, .ref l0), (1, .int l1)] [] w _
  refine ee_aload_n 0 dBytes_init_0 rfl ?_
  refine ee_objInit dBytes_init_1 gw_163 gw_obji gw_objc ⟨Nat.le_of_ble_eq_true rfl, Nat.le_of_ble_eq_true rfl⟩ ?_
  refine ee_aload_n 0 dBytes_init_4 rfl ?_
  refine ee_bipush (v := (32 : Int32)) dBytes_init_5 (by decide) ?_
  refine ee_newB dBytes_init_7 (fun v7 w7 _ _ _ => ?_)
  refine ee_put dBytes_init_9 lpiBytes_11 (ee_nRA _ _) (fun w9 _ => ?_)
  refine ee_aload_n 0 dBytes_init_12 rfl ?_
  refine ee_iconst (v := (0 : Int32)) dBytes_init_13 (by decide) ?_
  refine ee_put dBytes_init_14 lpiBytes_15 (ee_nI _) (fun w14 _ => ?_)
  refine ee_aload_n 0 dBytes_init_17 rfl ?_
  refine ee_iload_n 1 dBytes_init_18 rfl ?_
  refine ee_put dBytes_init_19 lpiBytes_19 (ee_nI _) (fun w19 _ => ?_)
  exact ee_vret rfl dBytes_init_22
def fBytes_get (l0 : Nat) (l1 : Int32) (w : PW) : PX := if l1 < 0 then (some (.inl (some (.int (-1 : Int32))), w)) else ((p_getI w l0 2 2).bind fun v6 => if v6 ≤ l1 then (some (.inl (some (.int (-1 : Int32))), w)) else ((p_getR w l0 2 1).bind fun v13 => (p_ald w v13 1 l1).bind fun v17 => some (.inl (some (.int (v17 &&& (255 : Int32)))), w)))
set_option maxRecDepth 20000 in
set_option maxHeartbeats 2000000 in
theorem t_fBytes_get {Γ : PG} : ∀ (l0 : Nat) (l1 : Int32) (w : PW), EE Γ MBytes_get 0 (lv_args 0 [.ref l0, .int l1]) [] w (fBytes_get l0 l1 w) := by
  intro l0 l1 w
  unfold fBytes_get
  show EE Γ MBytes_get 0 [(0, .ref l0), (1, .int l1)] [] w _
  refine ee_iload_n 1 dBytes_get_0 rfl ?_
  refine ee_if_lt (tgt := 25) dBytes_get_1 (by decide) (fun h1 => ?_) (fun h1 => ?_)
  · refine ee_iconst (v := (-1 : Int32)) dBytes_get_25 (by decide) ?_
    exact ee_iret rfl dBytes_get_26
  · refine ee_iload_n 1 dBytes_get_4 rfl ?_
    refine ee_aload_n 0 dBytes_get_5 rfl ?_
    refine ee_getI dBytes_get_6 lfBytes_15 (fun v6 _ => ?_)
    refine ee_icmp_ge (tgt := 25) dBytes_get_9 (by decide) (fun h9 => ?_) (fun h9 => ?_)
    · refine ee_iconst (v := (-1 : Int32)) dBytes_get_25 (by decide) ?_
      exact ee_iret rfl dBytes_get_26
    · refine ee_aload_n 0 dBytes_get_12 rfl ?_
      refine ee_getR dBytes_get_13 lfBytes_11 (fun v13 _ => ?_)
      refine ee_iload_n 1 dBytes_get_16 rfl ?_
      refine ee_bald (t := 1) dBytes_get_17 rfl (fun v17 _ => ?_)
      refine ee_sipush (v := (255 : Int32)) dBytes_get_18 (by decide) ?_
      refine ee_iand dBytes_get_21 ?_
      refine ee_goto (tgt := 26) dBytes_get_22 (by decide) ?_
      exact ee_iret rfl dBytes_get_26
def fBytes_put (l0 : Nat) (l1 : Int32) (l2 : Int32) (w : PW) : PX := if l1 < 0 then (some (.inl none, w)) else ((p_getI w l0 2 2).bind fun v6 => if v6 ≤ l1 then (some (.inl none, w)) else ((p_getR w l0 2 1).bind fun v13 => (p_ast w v13 1 l1 (vp_nar .byte (p_i2b l2))).bind fun w19 => some (.inl none, w19)))
set_option maxRecDepth 20000 in
set_option maxHeartbeats 2000000 in
theorem t_fBytes_put {Γ : PG} : ∀ (l0 : Nat) (l1 : Int32) (l2 : Int32) (w : PW), EE Γ MBytes_put 0 (lv_args 0 [.ref l0, .int l1, .int l2]) [] w (fBytes_put l0 l1 l2 w) := by
  intro l0 l1 l2 w
  unfold fBytes_put
  show EE Γ MBytes_put 0 [(0, .ref l0), (1, .int l1), (2, .int l2)] [] w _
  refine ee_iload_n 1 dBytes_put_0 rfl ?_
  refine ee_if_lt (tgt := 20) dBytes_put_1 (by decide) (fun h1 => ?_) (fun h1 => ?_)
  · exact ee_vret rfl dBytes_put_20
  · refine ee_iload_n 1 dBytes_put_4 rfl ?_
    refine ee_aload_n 0 dBytes_put_5 rfl ?_
    refine ee_getI dBytes_put_6 lfBytes_15 (fun v6 _ => ?_)
    refine ee_icmp_ge (tgt := 20) dBytes_put_9 (by decide) (fun h9 => ?_) (fun h9 => ?_)
    · exact ee_vret rfl dBytes_put_20
    · refine ee_aload_n 0 dBytes_put_12 rfl ?_
      refine ee_getR dBytes_put_13 lfBytes_11 (fun v13 _ => ?_)
      refine ee_iload_n 1 dBytes_put_16 rfl ?_
      refine ee_iload_n 2 dBytes_put_17 rfl ?_
      refine ee_i2b dBytes_put_18 ?_
      refine ee_bast (t := 1) dBytes_put_19 rfl (fun w19 _ => ?_)
      exact ee_vret rfl dBytes_put_20
def fBytes_putNumber4_2 : Nat → Nat → Int32 → Int32 → Int32 → PW → PX
  | 0, _, _, _, _, _ => none
  | n9 + 1, l0, l1, l2, l3, w => if (4 : Int32) ≤ l3 then (some (.inl none, w)) else ((p_obj w l0 2).bind fun _ => p_call (fBytes_put l0 (l1 + l3) ((p_ushr l2 ((24 : Int32) - ((8 : Int32) * l3))) &&& (255 : Int32)) w) <| p_kV fun w24 => p_let (l3 + (1 : Int32)) fun (l3_27 : Int32) => (fBytes_putNumber4_2 n9) l0 l1 l2 l3_27 w24)
set_option maxRecDepth 20000 in
set_option maxHeartbeats 2000000 in
theorem t_fBytes_putNumber4_2 {Γ : PG} : ∀ (n9 : Nat) (l0 : Nat) (l1 : Int32) (l2 : Int32) (l3 : Int32) (w : PW), EE Γ MBytes_putNumber4 2 [(0, .ref l0), (1, .int l1), (2, .int l2), (3, .int l3)] [] w (fBytes_putNumber4_2 n9 l0 l1 l2 l3 w) := by
  intro n9
  induction n9 with
  | zero => intro l0 l1 l2 l3 w; exact ee_none
  | succ n9 ih =>
    intro l0 l1 l2 l3 w
    unfold fBytes_putNumber4_2
    refine ee_iload_n 3 dBytes_putNumber4_2 rfl ?_
    refine ee_iconst (v := (4 : Int32)) dBytes_putNumber4_3 (by decide) ?_
    refine ee_icmp_ge (tgt := 33) dBytes_putNumber4_4 (by decide) (fun h4 => ?_) (fun h4 => ?_)
    · exact ee_vret rfl dBytes_putNumber4_33
    · refine ee_aload_n 0 dBytes_putNumber4_7 rfl ?_
      refine ee_iload_n 1 dBytes_putNumber4_8 rfl ?_
      refine ee_iload_n 3 dBytes_putNumber4_9 rfl ?_
      refine ee_iadd dBytes_putNumber4_10 ?_
      refine ee_iload_n 2 dBytes_putNumber4_11 rfl ?_
      refine ee_bipush (v := (24 : Int32)) dBytes_putNumber4_12 (by decide) ?_
      refine ee_bipush (v := (8 : Int32)) dBytes_putNumber4_14 (by decide) ?_
      refine ee_iload_n 3 dBytes_putNumber4_16 rfl ?_
      refine ee_imul dBytes_putNumber4_17 ?_
      refine ee_isub dBytes_putNumber4_18 ?_
      refine ee_iushr dBytes_putNumber4_19 ?_
      refine ee_sipush (v := (255 : Int32)) dBytes_putNumber4_20 (by decide) ?_
      refine ee_iand dBytes_putNumber4_23 ?_
      refine ee_bind (fun _ ho24 => ?_)
      refine ee_callV (as := [.int (l1 + l3), .int ((p_ushr l2 ((24 : Int32) - ((8 : Int32) * l3))) &&& (255 : Int32))]) (st := []) dBytes_putNumber4_24 (t_fBytes_put l0 (l1 + l3) ((p_ushr l2 ((24 : Int32) - ((8 : Int32) * l3))) &&& (255 : Int32)) w) my_fBytes_put.1 (Nat.le_of_ble_eq_true rfl) my_fBytes_put.2 rfl cf_2.1 rfl (p_obj_eq.mp ho24) gw_405 gw_406 gw_407 ⟨Nat.le_of_ble_eq_true rfl, Nat.le_of_ble_eq_true rfl⟩ (Nat.le_of_ble_eq_true rfl) (fun rv24 w24 _ => ?_)
      refine ee_kV ?_
      refine ee_iinc 3 dBytes_putNumber4_27 rfl (e := (1 : Int32)) (by decide) (Nat.le_of_ble_eq_true rfl) (fun l3_27 _ => ?_)
      refine ee_lv (lv2 := [(3, .int l3_27), (0, .ref l0), (1, .int l1), (2, .int l2)]) rfl ?_
      refine ee_goto (tgt := 2) dBytes_putNumber4_30 (by decide) ?_
      refine ee_pick [1, 2, 3, 0] rfl ?_
      exact ih _ _ _ _ w24
def fBytes_putNumber4 (l0 : Nat) (l1 : Int32) (l2 : Int32) (w : PW) : PX := fBytes_putNumber4_2 FUEL l0 l1 l2 (0 : Int32) w
set_option maxRecDepth 20000 in
set_option maxHeartbeats 2000000 in
theorem t_fBytes_putNumber4 {Γ : PG} : ∀ (l0 : Nat) (l1 : Int32) (l2 : Int32) (w : PW), EE Γ MBytes_putNumber4 0 (lv_args 0 [.ref l0, .int l1, .int l2]) [] w (fBytes_putNumber4 l0 l1 l2 w) := by
  intro l0 l1 l2 w
  unfold fBytes_putNumber4
  show EE Γ MBytes_putNumber4 0 [(0, .ref l0), (1, .int l1), (2, .int l2)] [] w _
  refine ee_iconst (v := (0 : Int32)) dBytes_putNumber4_0 (by decide) ?_
  refine ee_istore_n (lv2 := [(3, .int (0 : Int32)), (0, .ref l0), (1, .int l1), (2, .int l2)]) dBytes_putNumber4_1 (Nat.le_of_ble_eq_true rfl) rfl ?_
  refine ee_pick [1, 2, 3, 0] rfl ?_
  exact t_fBytes_putNumber4_2 FUEL _ _ _ _ w
def fBytes_number_5 : Nat → Nat → Int32 → Int32 → Int64 → Int32 → PW → PX
  | 0, _, _, _, _, _, _ => none
  | n9 + 1, l0, l1, l2, l3, l5, w => if l2 ≤ l5 then (some (.inl (some (.long l3)), w)) else ((p_obj w l0 2).bind fun _ => p_call (fBytes_get l0 (l1 + l5) w) <| p_kI fun v22 w22 => p_let (((l3 * (256 : Int64)) + (Int32.toInt64 (p_max (0 : Int32) v22)))) fun (l3_30 : Int64) => p_let (l5 + (1 : Int32)) fun (l5_31 : Int32) => (fBytes_number_5 n9) l0 l1 l2 l3_30 l5_31 w22)
set_option maxRecDepth 20000 in
set_option maxHeartbeats 2000000 in
theorem t_fBytes_number_5 {Γ : PG} : ∀ (n9 : Nat) (l0 : Nat) (l1 : Int32) (l2 : Int32) (l3 : Int64) (l5 : Int32) (w : PW), EE Γ MBytes_number 5 [(0, .ref l0), (1, .int l1), (2, .int l2), (3, .long l3), (5, .int l5)] [] w (fBytes_number_5 n9 l0 l1 l2 l3 l5 w) := by
  intro n9
  induction n9 with
  | zero => intro l0 l1 l2 l3 l5 w; exact ee_none
  | succ n9 ih =>
    intro l0 l1 l2 l3 l5 w
    unfold fBytes_number_5
    refine ee_iload 4 dBytes_number_5 rfl ?_
    refine ee_iload_n 2 dBytes_number_7 rfl ?_
    refine ee_icmp_ge (tgt := 37) dBytes_number_8 (by decide) (fun h8 => ?_) (fun h8 => ?_)
    · refine ee_lload_n 3 dBytes_number_37 rfl ?_
      exact ee_lret rfl dBytes_number_38
    · refine ee_lload_n 3 dBytes_number_11 rfl ?_
      refine ee_ldc2 (v := (256 : Int64)) dBytes_number_12 gw_541 ?_
      refine ee_lmul dBytes_number_15 ?_
      refine ee_iconst (v := (0 : Int32)) dBytes_number_16 (by decide) ?_
      refine ee_aload_n 0 dBytes_number_17 rfl ?_
      refine ee_iload_n 1 dBytes_number_18 rfl ?_
      refine ee_iload 4 dBytes_number_19 rfl ?_
      refine ee_iadd dBytes_number_21 ?_
      refine ee_bind (fun _ ho22 => ?_)
      refine ee_callV (as := [.int (l1 + l5)]) (st := [.int (0 : Int32), .long (l3 * (256 : Int64))]) dBytes_number_22 (t_fBytes_get l0 (l1 + l5) w) my_fBytes_get.1 (Nat.le_of_ble_eq_true rfl) my_fBytes_get.2 rfl cf_2.1 rfl (p_obj_eq.mp ho22) gw_542 gw_459 gw_460 ⟨Nat.le_of_ble_eq_true rfl, Nat.le_of_ble_eq_true rfl⟩ (Nat.le_of_ble_eq_true rfl) (fun rv22 w22 _ => ?_)
      refine ee_kI (fun v22 => ?_)
      refine ee_mmax dBytes_number_25 gw_543 gw_mmaxs gw_mi gw_mmaxc ⟨Nat.le_of_ble_eq_true rfl, Nat.le_of_ble_eq_true rfl⟩ ?_
      refine ee_i2l dBytes_number_28 ?_
      refine ee_ladd dBytes_number_29 ?_
      refine ee_letJ (fun l3_30 _ => ?_)
      refine ee_lstore_n (lv2 := [(3, .long l3_30), (0, .ref l0), (1, .int l1), (2, .int l2), (5, .int l5)]) dBytes_number_30 (Nat.le_of_ble_eq_true rfl) rfl ?_
      refine ee_iinc 4 dBytes_number_31 rfl (e := (1 : Int32)) (by decide) (Nat.le_of_ble_eq_true rfl) (fun l5_31 _ => ?_)
      refine ee_lv (lv2 := [(5, .int l5_31), (3, .long l3_30), (0, .ref l0), (1, .int l1), (2, .int l2)]) rfl ?_
      refine ee_goto (tgt := 5) dBytes_number_34 (by decide) ?_
      refine ee_pick [2, 3, 4, 1, 0] rfl ?_
      exact ih _ _ _ _ _ w22
def fBytes_number (l0 : Nat) (l1 : Int32) (l2 : Int32) (w : PW) : PX := fBytes_number_5 FUEL l0 l1 l2 (0 : Int64) (0 : Int32) w
set_option maxRecDepth 20000 in
set_option maxHeartbeats 2000000 in
theorem t_fBytes_number {Γ : PG} : ∀ (l0 : Nat) (l1 : Int32) (l2 : Int32) (w : PW), EE Γ MBytes_number 0 (lv_args 0 [.ref l0, .int l1, .int l2]) [] w (fBytes_number l0 l1 l2 w) := by
  intro l0 l1 l2 w
  unfold fBytes_number
  show EE Γ MBytes_number 0 [(0, .ref l0), (1, .int l1), (2, .int l2)] [] w _
  refine ee_lconst (v := (0 : Int64)) dBytes_number_0 (by decide) ?_
  refine ee_lstore_n (lv2 := [(3, .long (0 : Int64)), (0, .ref l0), (1, .int l1), (2, .int l2)]) dBytes_number_1 (Nat.le_of_ble_eq_true rfl) rfl ?_
  refine ee_iconst (v := (0 : Int32)) dBytes_number_2 (by decide) ?_
  refine ee_istore (lv2 := [(5, .int (0 : Int32)), (3, .long (0 : Int64)), (0, .ref l0), (1, .int l1), (2, .int l2)]) dBytes_number_3 (Nat.le_of_ble_eq_true rfl) rfl ?_
  refine ee_pick [2, 3, 4, 1, 0] rfl ?_
  exact t_fBytes_number_5 FUEL _ _ _ _ _ w
def fNumbers_init (l0 : Nat) (w : PW) : PX := p_newA w 0 4 (8 : Int32) fun v7 w7 => (p_put w7 l0 5 0 (.ref v7)).bind fun w9 => (p_put w9 l0 5 1 (.int (0 : Int32))).bind fun w14 => some (.inl none, w14)
set_option maxRecDepth 20000 in
set_option maxHeartbeats 2000000 in
theorem t_fNumbers_init {Γ : PG} : ∀ (l0 : Nat) (w : PW), EE Γ MNumbers_init 0 (lv_args 0 [.ref l0]) [] w (fNumbers_init l0 w) := by
  intro l0 w
  unfold fNumbers_init
  show EE Γ MNumbers_init 0 [(0, .ref l0)] [] w _
  refine ee_aload_n 0 dNumbers_init_0 rfl ?_
  refine ee_objInit dNumbers_init_1 gw_196 gw_obji gw_objc ⟨Nat.le_of_ble_eq_true rfl, Nat.le_of_ble_eq_true rfl⟩ ?_
  refine ee_aload_n 0 dNumbers_init_4 rfl ?_
  refine ee_bipush (v := (8 : Int32)) dNumbers_init_5 (by decide) ?_
  refine ee_newI dNumbers_init_7 (fun v7 w7 _ _ _ => ?_)
  refine ee_put dNumbers_init_9 lpiNumbers_11 (ee_nRA _ _) (fun w9 _ => ?_)
  refine ee_aload_n 0 dNumbers_init_12 rfl ?_
  refine ee_iconst (v := (0 : Int32)) dNumbers_init_13 (by decide) ?_
  refine ee_put dNumbers_init_14 lpiNumbers_15 (ee_nI _) (fun w14 _ => ?_)
  exact ee_vret rfl dNumbers_init_17
def fNumbers_get (l0 : Nat) (l1 : Int32) (w : PW) : PX := if l1 < 0 then (some (.inl (some (.int (-1 : Int32))), w)) else ((p_getI w l0 5 1).bind fun v6 => if v6 ≤ l1 then (some (.inl (some (.int (-1 : Int32))), w)) else ((p_getR w l0 5 0).bind fun v13 => (p_ald w v13 0 l1).bind fun v17 => some (.inl (some (.int v17)), w)))
set_option maxRecDepth 20000 in
set_option maxHeartbeats 2000000 in
theorem t_fNumbers_get {Γ : PG} : ∀ (l0 : Nat) (l1 : Int32) (w : PW), EE Γ MNumbers_get 0 (lv_args 0 [.ref l0, .int l1]) [] w (fNumbers_get l0 l1 w) := by
  intro l0 l1 w
  unfold fNumbers_get
  show EE Γ MNumbers_get 0 [(0, .ref l0), (1, .int l1)] [] w _
  refine ee_iload_n 1 dNumbers_get_0 rfl ?_
  refine ee_if_lt (tgt := 21) dNumbers_get_1 (by decide) (fun h1 => ?_) (fun h1 => ?_)
  · refine ee_iconst (v := (-1 : Int32)) dNumbers_get_21 (by decide) ?_
    exact ee_iret rfl dNumbers_get_22
  · refine ee_iload_n 1 dNumbers_get_4 rfl ?_
    refine ee_aload_n 0 dNumbers_get_5 rfl ?_
    refine ee_getI dNumbers_get_6 lfNumbers_15 (fun v6 _ => ?_)
    refine ee_icmp_ge (tgt := 21) dNumbers_get_9 (by decide) (fun h9 => ?_) (fun h9 => ?_)
    · refine ee_iconst (v := (-1 : Int32)) dNumbers_get_21 (by decide) ?_
      exact ee_iret rfl dNumbers_get_22
    · refine ee_aload_n 0 dNumbers_get_12 rfl ?_
      refine ee_getR dNumbers_get_13 lfNumbers_11 (fun v13 _ => ?_)
      refine ee_iload_n 1 dNumbers_get_16 rfl ?_
      refine ee_iald (t := 0) dNumbers_get_17 rfl (fun v17 _ => ?_)
      refine ee_goto (tgt := 22) dNumbers_get_18 (by decide) ?_
      exact ee_iret rfl dNumbers_get_22
def fTilePart_init (l0 : Nat) (l1 : Int32) (l2 : Int32) (w : PW) : PX := p_newA w 0 4 (20 : Int32) fun v7 w7 => (p_put w7 l0 8 2 (.ref v7)).bind fun w9 => p_newO w9 2 3 [.int 0, .null, .int 0] fun v13 w13 => p_call (fBytes_init v13 (300 : Int32) w13) <| p_kV fun w20 => (p_put w20 l0 8 3 (.ref v13)).bind fun w23 => (p_put w23 l0 8 4 (.int (0 : Int32))).bind fun w28 => (p_put w28 l0 8 0 (.int l1)).bind fun w33 => (p_put w33 l0 8 1 (.int l2)).bind fun w38 => some (.inl none, w38)
set_option maxRecDepth 20000 in
set_option maxHeartbeats 2000000 in
theorem t_fTilePart_init {Γ : PG} : ∀ (l0 : Nat) (l1 : Int32) (l2 : Int32) (w : PW), EE Γ MTilePart_init 0 (lv_args 0 [.ref l0, .int l1, .int l2]) [] w (fTilePart_init l0 l1 l2 w) := by
  intro l0 l1 l2 w
  unfold fTilePart_init
  show EE Γ MTilePart_init 0 [(0, .ref l0), (1, .int l1), (2, .int l2)] [] w _
  refine ee_aload_n 0 dTilePart_init_0 rfl ?_
  refine ee_objInit dTilePart_init_1 gw_913 gw_obji gw_objc ⟨Nat.le_of_ble_eq_true rfl, Nat.le_of_ble_eq_true rfl⟩ ?_
  refine ee_aload_n 0 dTilePart_init_4 rfl ?_
  refine ee_bipush (v := (20 : Int32)) dTilePart_init_5 (by decide) ?_
  refine ee_newI dTilePart_init_7 (fun v7 w7 _ _ _ => ?_)
  refine ee_put dTilePart_init_9 lpiTilePart_9 (ee_nRA _ _) (fun w9 _ => ?_)
  refine ee_aload_n 0 dTilePart_init_12 rfl ?_
  refine ee_new dTilePart_init_13 lnTilePart_15 (fun v13 w13 _ _ => ?_)
  refine ee_dup dTilePart_init_16 rfl ?_
  refine ee_sipush (v := (300 : Int32)) dTilePart_init_17 (by decide) ?_
  refine ee_callI (as := [.int (300 : Int32)]) (st := [.ref v13, .ref l0]) dTilePart_init_20 (t_fBytes_init v13 (300 : Int32) w13) my_fBytes_init.1 (Nat.le_of_ble_eq_true rfl) my_fBytes_init.2 rfl rfl rfl gw_915 gw_161 ⟨Nat.le_of_ble_eq_true rfl, Nat.le_of_ble_eq_true rfl⟩ (Nat.le_of_ble_eq_true rfl) (fun rv20 w20 _ => ?_)
  refine ee_kV ?_
  refine ee_put dTilePart_init_23 lpiTilePart_20 (ee_nR _ _) (fun w23 _ => ?_)
  refine ee_aload_n 0 dTilePart_init_26 rfl ?_
  refine ee_iconst (v := (0 : Int32)) dTilePart_init_27 (by decide) ?_
  refine ee_put dTilePart_init_28 lpiTilePart_24 (ee_nI _) (fun w28 _ => ?_)
  refine ee_aload_n 0 dTilePart_init_31 rfl ?_
  refine ee_iload_n 1 dTilePart_init_32 rfl ?_
  refine ee_put dTilePart_init_33 lpiTilePart_28 (ee_nI _) (fun w33 _ => ?_)
  refine ee_aload_n 0 dTilePart_init_36 rfl ?_
  refine ee_iload_n 2 dTilePart_init_37 rfl ?_
  refine ee_put dTilePart_init_38 lpiTilePart_31 (ee_nI _) (fun w38 _ => ?_)
  exact ee_vret rfl dTilePart_init_41
def fMadeBox_init (l0 : Nat) (l1 : Int32) (l2 : Int32) (w : PW) : PX := p_newO w 2 3 [.int 0, .null, .int 0] fun v5 w5 => p_call (fBytes_init v5 (40 : Int32) w5) <| p_kV fun w11 => (p_put w11 l0 4 2 (.ref v5)).bind fun w14 => if ¬ (l1 = 0 ∨ l1 = 1) then none else (p_put w14 l0 4 0 (.int l1)).bind fun w19 => (p_put w19 l0 4 1 (.int l2)).bind fun w24 => some (.inl none, w24)
set_option maxRecDepth 20000 in
set_option maxHeartbeats 2000000 in
theorem t_fMadeBox_init {Γ : PG} : ∀ (l0 : Nat) (l1 : Int32) (l2 : Int32) (w : PW), EE Γ MMadeBox_init 0 (lv_args 0 [.ref l0, .int l1, .int l2]) [] w (fMadeBox_init l0 l1 l2 w) := by
  intro l0 l1 l2 w
  unfold fMadeBox_init
  show EE Γ MMadeBox_init 0 [(0, .ref l0), (1, .int l1), (2, .int l2)] [] w _
  refine ee_aload_n 0 dMadeBox_init_0 rfl ?_
  refine ee_objInit dMadeBox_init_1 gw_1047 gw_obji gw_objc ⟨Nat.le_of_ble_eq_true rfl, Nat.le_of_ble_eq_true rfl⟩ ?_
  refine ee_aload_n 0 dMadeBox_init_4 rfl ?_
  refine ee_new dMadeBox_init_5 lnMadeBox_9 (fun v5 w5 _ _ => ?_)
  refine ee_dup dMadeBox_init_8 rfl ?_
  refine ee_bipush (v := (40 : Int32)) dMadeBox_init_9 (by decide) ?_
  refine ee_callI (as := [.int (40 : Int32)]) (st := [.ref v5, .ref l0]) dMadeBox_init_11 (t_fBytes_init v5 (40 : Int32) w5) my_fBytes_init.1 (Nat.le_of_ble_eq_true rfl) my_fBytes_init.2 rfl rfl rfl gw_1049 gw_161 ⟨Nat.le_of_ble_eq_true rfl, Nat.le_of_ble_eq_true rfl⟩ (Nat.le_of_ble_eq_true rfl) (fun rv11 w11 _ => ?_)
  refine ee_kV ?_
  refine ee_put dMadeBox_init_14 lpiMadeBox_14 (ee_nR _ _) (fun w14 _ => ?_)
  refine ee_aload_n 0 dMadeBox_init_17 rfl ?_
  refine ee_iload_n 1 dMadeBox_init_18 rfl ?_
  refine ee_ite (fun _ => ee_none) (fun hz19 => ?_)
  refine ee_put dMadeBox_init_19 lpiMadeBox_20 (ee_nZ _ (Classical.byContradiction hz19)) (fun w19 _ => ?_)
  refine ee_aload_n 0 dMadeBox_init_22 rfl ?_
  refine ee_iload_n 2 dMadeBox_init_23 rfl ?_
  refine ee_put dMadeBox_init_24 lpiMadeBox_24 (ee_nI _) (fun w24 _ => ?_)
  exact ee_vret rfl dMadeBox_init_27
def fSettings_init (l0 : Nat) (w : PW) : PX := p_newA w 0 4 (3 : Int32) fun v6 w6 => (p_put w6 l0 7 0 (.ref v6)).bind fun w8 => p_newA w8 0 4 (4 : Int32) fun v13 w13 => (p_put w13 l0 7 1 (.ref v13)).bind fun w15 => p_newA w15 0 4 (875 : Int32) fun v22 w22 => (p_put w22 l0 7 2 (.ref v22)).bind fun w24 => p_newA w24 2 1 (125 : Int32) fun v30 w30 => (p_put w30 l0 7 3 (.ref v30)).bind fun w32 => p_newA w32 2 1 (125 : Int32) fun v38 w38 => (p_put w38 l0 7 4 (.ref v38)).bind fun w40 => (p_put w40 l0 7 5 (.int (1 : Int32))).bind fun w45 => (p_put w45 l0 7 6 (.int (1 : Int32))).bind fun w50 => some (.inl none, w50)
set_option maxRecDepth 20000 in
set_option maxHeartbeats 2000000 in
theorem t_fSettings_init {Γ : PG} : ∀ (l0 : Nat) (w : PW), EE Γ MSettings_init 0 (lv_args 0 [.ref l0]) [] w (fSettings_init l0 w) := by
  intro l0 w
  unfold fSettings_init
  show EE Γ MSettings_init 0 [(0, .ref l0)] [] w _
  refine ee_aload_n 0 dSettings_init_0 rfl ?_
  refine ee_objInit dSettings_init_1 gw_93 gw_obji gw_objc ⟨Nat.le_of_ble_eq_true rfl, Nat.le_of_ble_eq_true rfl⟩ ?_
  refine ee_aload_n 0 dSettings_init_4 rfl ?_
  refine ee_iconst (v := (3 : Int32)) dSettings_init_5 (by decide) ?_
  refine ee_newI dSettings_init_6 (fun v6 w6 _ _ _ => ?_)
  refine ee_put dSettings_init_8 lpiSettings_11 (ee_nRA _ _) (fun w8 _ => ?_)
  refine ee_aload_n 0 dSettings_init_11 rfl ?_
  refine ee_iconst (v := (4 : Int32)) dSettings_init_12 (by decide) ?_
  refine ee_newI dSettings_init_13 (fun v13 w13 _ _ _ => ?_)
  refine ee_put dSettings_init_15 lpiSettings_15 (ee_nRA _ _) (fun w15 _ => ?_)
  refine ee_aload_n 0 dSettings_init_18 rfl ?_
  refine ee_sipush (v := (875 : Int32)) dSettings_init_19 (by decide) ?_
  refine ee_newI dSettings_init_22 (fun v22 w22 _ _ _ => ?_)
  refine ee_put dSettings_init_24 lpiSettings_18 (ee_nRA _ _) (fun w24 _ => ?_)
  refine ee_aload_n 0 dSettings_init_27 rfl ?_
  refine ee_bipush (v := (125 : Int32)) dSettings_init_28 (by decide) ?_
  refine ee_newZ dSettings_init_30 (fun v30 w30 _ _ _ => ?_)
  refine ee_put dSettings_init_32 lpiSettings_21 (ee_nRA _ _) (fun w32 _ => ?_)
  refine ee_aload_n 0 dSettings_init_35 rfl ?_
  refine ee_bipush (v := (125 : Int32)) dSettings_init_36 (by decide) ?_
  refine ee_newZ dSettings_init_38 (fun v38 w38 _ _ _ => ?_)
  refine ee_put dSettings_init_40 lpiSettings_25 (ee_nRA _ _) (fun w40 _ => ?_)
  refine ee_aload_n 0 dSettings_init_43 rfl ?_
  refine ee_iconst (v := (1 : Int32)) dSettings_init_44 (by decide) ?_
  refine ee_put dSettings_init_45 lpiSettings_28 (ee_nI _) (fun w45 _ => ?_)
  refine ee_aload_n 0 dSettings_init_48 rfl ?_
  refine ee_iconst (v := (1 : Int32)) dSettings_init_49 (by decide) ?_
  refine ee_put dSettings_init_50 lpiSettings_32 (ee_nI _) (fun w50 _ => ?_)
  exact ee_vret rfl dSettings_init_53
def fSettings_forgetSegments_2 : Nat → Nat → Int32 → PW → PX
  | 0, _, _, _ => none
  | n9 + 1, l0, l1, w => if (125 : Int32) ≤ l1 then (some (.inl none, w)) else ((p_getR w l0 7 3).bind fun v9 => (p_ast w v9 2 l1 (vp_nar .boolean (0 : Int32))).bind fun w14 => (p_getR w14 l0 7 4).bind fun v16 => (p_ast w14 v16 2 l1 (vp_nar .boolean (0 : Int32))).bind fun w21 => p_let (l1 + (1 : Int32)) fun (l1_22 : Int32) => (fSettings_forgetSegments_2 n9) l0 l1_22 w21)
set_option maxRecDepth 20000 in
set_option maxHeartbeats 2000000 in
theorem t_fSettings_forgetSegments_2 {Γ : PG} : ∀ (n9 : Nat) (l0 : Nat) (l1 : Int32) (w : PW), EE Γ MSettings_forgetSegments 2 [(0, .ref l0), (1, .int l1)] [] w (fSettings_forgetSegments_2 n9 l0 l1 w) := by
  intro n9
  induction n9 with
  | zero => intro l0 l1 w; exact ee_none
  | succ n9 ih =>
    intro l0 l1 w
    unfold fSettings_forgetSegments_2
    refine ee_iload_n 1 dSettings_forgetSegments_2 rfl ?_
    refine ee_bipush (v := (125 : Int32)) dSettings_forgetSegments_3 (by decide) ?_
    refine ee_icmp_ge (tgt := 28) dSettings_forgetSegments_5 (by decide) (fun h5 => ?_) (fun h5 => ?_)
    · exact ee_vret rfl dSettings_forgetSegments_28
    · refine ee_aload_n 0 dSettings_forgetSegments_8 rfl ?_
      refine ee_getR dSettings_forgetSegments_9 lfSettings_21 (fun v9 _ => ?_)
      refine ee_iload_n 1 dSettings_forgetSegments_12 rfl ?_
      refine ee_iconst (v := (0 : Int32)) dSettings_forgetSegments_13 (by decide) ?_
      refine ee_zast (t := 2) dSettings_forgetSegments_14 rfl (fun w14 _ => ?_)
      refine ee_aload_n 0 dSettings_forgetSegments_15 rfl ?_
      refine ee_getR dSettings_forgetSegments_16 lfSettings_25 (fun v16 _ => ?_)
      refine ee_iload_n 1 dSettings_forgetSegments_19 rfl ?_
      refine ee_iconst (v := (0 : Int32)) dSettings_forgetSegments_20 (by decide) ?_
      refine ee_zast (t := 2) dSettings_forgetSegments_21 rfl (fun w21 _ => ?_)
      refine ee_iinc 1 dSettings_forgetSegments_22 rfl (e := (1 : Int32)) (by decide) (Nat.le_of_ble_eq_true rfl) (fun l1_22 _ => ?_)
      refine ee_lv (lv2 := [(1, .int l1_22), (0, .ref l0)]) rfl ?_
      refine ee_goto (tgt := 2) dSettings_forgetSegments_25 (by decide) ?_
      refine ee_pick [1, 0] rfl ?_
      exact ih _ _ w21
def fSettings_forgetSegments (l0 : Nat) (w : PW) : PX := fSettings_forgetSegments_2 FUEL l0 (0 : Int32) w
set_option maxRecDepth 20000 in
set_option maxHeartbeats 2000000 in
theorem t_fSettings_forgetSegments {Γ : PG} : ∀ (l0 : Nat) (w : PW), EE Γ MSettings_forgetSegments 0 (lv_args 0 [.ref l0]) [] w (fSettings_forgetSegments l0 w) := by
  intro l0 w
  unfold fSettings_forgetSegments
  show EE Γ MSettings_forgetSegments 0 [(0, .ref l0)] [] w _
  refine ee_iconst (v := (0 : Int32)) dSettings_forgetSegments_0 (by decide) ?_
  refine ee_istore_n (lv2 := [(1, .int (0 : Int32)), (0, .ref l0)]) dSettings_forgetSegments_1 (Nat.le_of_ble_eq_true rfl) rfl ?_
  refine ee_pick [1, 0] rfl ?_
  exact t_fSettings_forgetSegments_2 FUEL _ _ w
def fSettings_place (l0 : Int32) (l1 : Int32) (w : PW) : PX := some (.inl (some (.int (((l0 * (7 : Int32)) + l1) - (4 : Int32)))), w)
set_option maxRecDepth 20000 in
set_option maxHeartbeats 2000000 in
theorem t_fSettings_place {Γ : PG} : ∀ (l0 : Int32) (l1 : Int32) (w : PW), EE Γ MSettings_place 0 (lv_args 0 [.int l0, .int l1]) [] w (fSettings_place l0 l1 w) := by
  intro l0 l1 w
  unfold fSettings_place
  show EE Γ MSettings_place 0 [(0, .int l0), (1, .int l1)] [] w _
  refine ee_iload_n 0 dSettings_place_0 rfl ?_
  refine ee_bipush (v := (7 : Int32)) dSettings_place_1 (by decide) ?_
  refine ee_imul dSettings_place_3 ?_
  refine ee_iload_n 1 dSettings_place_4 rfl ?_
  refine ee_iadd dSettings_place_5 ?_
  refine ee_iconst (v := (4 : Int32)) dSettings_place_6 (by decide) ?_
  refine ee_isub dSettings_place_7 ?_
  exact ee_iret rfl dSettings_place_8
def fSettings_hold (l0 : Nat) (l1 : Int32) (l2 : Int32) (l3 : Int32) (w : PW) : PX := (p_getR w l0 7 2).bind fun v1 => p_call (fSettings_place l1 l2 w) <| p_kI fun v6 w6 => (p_ast w6 v1 0 v6 l3).bind fun w10 => if (9 : Int32) ≤ l2 then ((p_getR w10 l0 7 4).bind fun v28 => (p_ast w10 v28 2 l1 (vp_nar .boolean (1 : Int32))).bind fun w33 => some (.inl none, w33)) else ((p_getR w10 l0 7 3).bind fun v18 => (p_ast w10 v18 2 l1 (vp_nar .boolean (1 : Int32))).bind fun w23 => some (.inl none, w23))
set_option maxRecDepth 20000 in
set_option maxHeartbeats 2000000 in
theorem t_fSettings_hold {Γ : PG} : ∀ (l0 : Nat) (l1 : Int32) (l2 : Int32) (l3 : Int32) (w : PW), EE Γ MSettings_hold 0 (lv_args 0 [.ref l0, .int l1, .int l2, .int l3]) [] w (fSettings_hold l0 l1 l2 l3 w) := by
  intro l0 l1 l2 l3 w
  unfold fSettings_hold
  show EE Γ MSettings_hold 0 [(0, .ref l0), (1, .int l1), (2, .int l2), (3, .int l3)] [] w _
  refine ee_aload_n 0 dSettings_hold_0 rfl ?_
  refine ee_getR dSettings_hold_1 lfSettings_18 (fun v1 _ => ?_)
  refine ee_iload_n 1 dSettings_hold_4 rfl ?_
  refine ee_iload_n 2 dSettings_hold_5 rfl ?_
  refine ee_callS (as := [.int l1, .int l2]) (st := [.ref v1]) dSettings_hold_6 (t_fSettings_place l1 l2 w) my_fSettings_place.1 (Nat.le_of_ble_eq_true rfl) my_fSettings_place.2 rfl gw_319 gw_320 ⟨Nat.le_of_ble_eq_true rfl, Nat.le_of_ble_eq_true rfl⟩ (Nat.le_of_ble_eq_true rfl) (fun rv6 w6 _ => ?_)
  refine ee_kI (fun v6 => ?_)
  refine ee_iload_n 3 dSettings_hold_9 rfl ?_
  refine ee_iast (t := 0) dSettings_hold_10 rfl (fun w10 _ => ?_)
  refine ee_iload_n 2 dSettings_hold_11 rfl ?_
  refine ee_bipush (v := (9 : Int32)) dSettings_hold_12 (by decide) ?_
  refine ee_icmp_ge (tgt := 27) dSettings_hold_14 (by decide) (fun h14 => ?_) (fun h14 => ?_)
  · refine ee_aload_n 0 dSettings_hold_27 rfl ?_
    refine ee_getR dSettings_hold_28 lfSettings_25 (fun v28 _ => ?_)
    refine ee_iload_n 1 dSettings_hold_31 rfl ?_
    refine ee_iconst (v := (1 : Int32)) dSettings_hold_32 (by decide) ?_
    refine ee_zast (t := 2) dSettings_hold_33 rfl (fun w33 _ => ?_)
    exact ee_vret rfl dSettings_hold_34
  · refine ee_aload_n 0 dSettings_hold_17 rfl ?_
    refine ee_getR dSettings_hold_18 lfSettings_21 (fun v18 _ => ?_)
    refine ee_iload_n 1 dSettings_hold_21 rfl ?_
    refine ee_iconst (v := (1 : Int32)) dSettings_hold_22 (by decide) ?_
    refine ee_zast (t := 2) dSettings_hold_23 rfl (fun w23 _ => ?_)
    refine ee_goto (tgt := 34) dSettings_hold_24 (by decide) ?_
    exact ee_vret rfl dSettings_hold_34
def fSettings_restart_65 : Nat → Nat → Int32 → PW → PX
  | 0, _, _, _ => none
  | n9 + 1, l0, l3, w => if (10 : Int32) < l3 then (some (.inl none, w)) else ((p_tab 2 l3).bind fun v78 => (p_obj w l0 7).bind fun _ => p_call (fSettings_hold l0 (0 : Int32) l3 v78 w) <| p_kV fun w79 => p_let (l3 + (1 : Int32)) fun (l3_82 : Int32) => (fSettings_restart_65 n9) l0 l3_82 w79)
set_option maxRecDepth 20000 in
set_option maxHeartbeats 2000000 in
theorem t_fSettings_restart_65 {Γ : PG} : ∀ (n9 : Nat) (l0 : Nat) (l3 : Int32) (w : PW), EE Γ MSettings_restart 65 [(0, .ref l0), (3, .int l3)] [] w (fSettings_restart_65 n9 l0 l3 w) := by
  intro n9
  induction n9 with
  | zero => intro l0 l3 w; exact ee_none
  | succ n9 ih =>
    intro l0 l3 w
    unfold fSettings_restart_65
    refine ee_iload_n 1 dSettings_restart_65 rfl ?_
    refine ee_bipush (v := (10 : Int32)) dSettings_restart_66 (by decide) ?_
    refine ee_icmp_gt (tgt := 88) dSettings_restart_68 (by decide) (fun h68 => ?_) (fun h68 => ?_)
    · exact ee_vret rfl dSettings_restart_88
    · refine ee_aload_n 0 dSettings_restart_71 rfl ?_
      refine ee_iconst (v := (0 : Int32)) dSettings_restart_72 (by decide) ?_
      refine ee_iload_n 1 dSettings_restart_73 rfl ?_
      refine ee_gets (j := 2) (by decide) dSettings_restart_74 lsSettings_35 ?_
      refine ee_iload_n 1 dSettings_restart_77 rfl ?_
      refine ee_tald (by decide) dSettings_restart_78 (fun v78 _ => ?_)
      refine ee_bind (fun _ ho79 => ?_)
      refine ee_callV (as := [.int (0 : Int32), .int l3, .int v78]) (st := []) dSettings_restart_79 (t_fSettings_hold l0 (0 : Int32) l3 v78 w) my_fSettings_hold.1 (Nat.le_of_ble_eq_true rfl) my_fSettings_hold.2 rfl cf_7.1 rfl (p_obj_eq.mp ho79) gw_315 gw_316 gw_317 ⟨Nat.le_of_ble_eq_true rfl, Nat.le_of_ble_eq_true rfl⟩ (Nat.le_of_ble_eq_true rfl) (fun rv79 w79 _ => ?_)
      refine ee_kV ?_
      refine ee_iinc 1 dSettings_restart_82 rfl (e := (1 : Int32)) (by decide) (Nat.le_of_ble_eq_true rfl) (fun l3_82 _ => ?_)
      refine ee_lv (lv2 := [(3, .int l3_82), (0, .ref l0)]) rfl ?_
      refine ee_goto (tgt := 65) dSettings_restart_85 (by decide) ?_
      refine ee_pick [1, 0] rfl ?_
      exact ih _ _ w79
def fSettings_restart_37 : Nat → Nat → Int32 → PW → PX
  | 0, _, _, _ => none
  | n9 + 1, l0, l3, w => if (4 : Int32) ≤ l3 then ((p_obj w l0 7).bind fun _ => p_call (fSettings_forgetSegments l0 w) <| p_kV fun w60 => fSettings_restart_65 FUEL l0 (4 : Int32) w60) else ((p_getR w l0 7 1).bind fun v43 => (p_tab 2 (3 : Int32)).bind fun v51 => (p_ast w v43 0 l3 v51).bind fun w52 => p_let (l3 + (1 : Int32)) fun (l3_53 : Int32) => (fSettings_restart_37 n9) l0 l3_53 w52)
set_option maxRecDepth 20000 in
set_option maxHeartbeats 2000000 in
theorem t_fSettings_restart_37 {Γ : PG} : ∀ (n9 : Nat) (l0 : Nat) (l3 : Int32) (w : PW), EE Γ MSettings_restart 37 [(0, .ref l0), (3, .int l3)] [] w (fSettings_restart_37 n9 l0 l3 w) := by
  intro n9
  induction n9 with
  | zero => intro l0 l3 w; exact ee_none
  | succ n9 ih =>
    intro l0 l3 w
    unfold fSettings_restart_37
    refine ee_iload_n 1 dSettings_restart_37 rfl ?_
    refine ee_iconst (v := (4 : Int32)) dSettings_restart_38 (by decide) ?_
    refine ee_icmp_ge (tgt := 59) dSettings_restart_39 (by decide) (fun h39 => ?_) (fun h39 => ?_)
    · refine ee_aload_n 0 dSettings_restart_59 rfl ?_
      refine ee_bind (fun _ ho60 => ?_)
      refine ee_callV (as := []) (st := []) dSettings_restart_60 (t_fSettings_forgetSegments l0 w) my_fSettings_forgetSegments.1 (Nat.le_of_ble_eq_true rfl) my_fSettings_forgetSegments.2 rfl cf_7.1 rfl (p_obj_eq.mp ho60) gw_311 gw_312 gw_313 ⟨Nat.le_of_ble_eq_true rfl, Nat.le_of_ble_eq_true rfl⟩ (Nat.le_of_ble_eq_true rfl) (fun rv60 w60 _ => ?_)
      refine ee_kV ?_
      refine ee_iconst (v := (4 : Int32)) dSettings_restart_63 (by decide) ?_
      refine ee_istore_n (lv2 := [(3, .int (4 : Int32)), (0, .ref l0)]) dSettings_restart_64 (Nat.le_of_ble_eq_true rfl) rfl ?_
      refine ee_pick [1, 0] rfl ?_
      exact t_fSettings_restart_65 FUEL _ _ w60
    · refine ee_aload_n 0 dSettings_restart_42 rfl ?_
      refine ee_getR dSettings_restart_43 lfSettings_15 (fun v43 _ => ?_)
      refine ee_iload_n 1 dSettings_restart_46 rfl ?_
      refine ee_gets (j := 2) (by decide) dSettings_restart_47 lsSettings_35 ?_
      refine ee_iconst (v := (3 : Int32)) dSettings_restart_50 (by decide) ?_
      refine ee_tald (by decide) dSettings_restart_51 (fun v51 _ => ?_)
      refine ee_iast (t := 0) dSettings_restart_52 rfl (fun w52 _ => ?_)
      refine ee_iinc 1 dSettings_restart_53 rfl (e := (1 : Int32)) (by decide) (Nat.le_of_ble_eq_true rfl) (fun l3_53 _ => ?_)
      refine ee_lv (lv2 := [(3, .int l3_53), (0, .ref l0)]) rfl ?_
      refine ee_goto (tgt := 37) dSettings_restart_56 (by decide) ?_
      refine ee_pick [1, 0] rfl ?_
      exact ih _ _ w52
def fSettings_restart (l0 : Nat) (l1 : Int32) (l2 : Int32) (w : PW) : PX := (p_put w l0 7 5 (.int l1)).bind fun w2 => (p_put w2 l0 7 6 (.int l2)).bind fun w7 => (p_getR w7 l0 7 0).bind fun v11 => (p_ast w7 v11 0 (0 : Int32) l1).bind fun w16 => (p_getR w16 l0 7 0).bind fun v18 => (p_ast w16 v18 0 (1 : Int32) l2).bind fun w23 => (p_getR w23 l0 7 0).bind fun v25 => (p_tab 2 (2 : Int32)).bind fun v33 => (p_ast w23 v25 0 (2 : Int32) v33).bind fun w34 => fSettings_restart_37 FUEL l0 (0 : Int32) w34
set_option maxRecDepth 20000 in
set_option maxHeartbeats 2000000 in
theorem t_fSettings_restart {Γ : PG} : ∀ (l0 : Nat) (l1 : Int32) (l2 : Int32) (w : PW), EE Γ MSettings_restart 0 (lv_args 0 [.ref l0, .int l1, .int l2]) [] w (fSettings_restart l0 l1 l2 w) := by
  intro l0 l1 l2 w
  unfold fSettings_restart
  show EE Γ MSettings_restart 0 [(0, .ref l0), (1, .int l1), (2, .int l2)] [] w _
  refine ee_aload_n 0 dSettings_restart_0 rfl ?_
  refine ee_iload_n 1 dSettings_restart_1 rfl ?_
  refine ee_put dSettings_restart_2 lpSettings_28 (ee_nI _) (fun w2 _ => ?_)
  refine ee_aload_n 0 dSettings_restart_5 rfl ?_
  refine ee_iload_n 2 dSettings_restart_6 rfl ?_
  refine ee_put dSettings_restart_7 lpSettings_32 (ee_nI _) (fun w7 _ => ?_)
  refine ee_aload_n 0 dSettings_restart_10 rfl ?_
  refine ee_getR dSettings_restart_11 lfSettings_11 (fun v11 _ => ?_)
  refine ee_iconst (v := (0 : Int32)) dSettings_restart_14 (by decide) ?_
  refine ee_iload_n 1 dSettings_restart_15 rfl ?_
  refine ee_iast (t := 0) dSettings_restart_16 rfl (fun w16 _ => ?_)
  refine ee_aload_n 0 dSettings_restart_17 rfl ?_
  refine ee_getR dSettings_restart_18 lfSettings_11 (fun v18 _ => ?_)
  refine ee_iconst (v := (1 : Int32)) dSettings_restart_21 (by decide) ?_
  refine ee_iload_n 2 dSettings_restart_22 rfl ?_
  refine ee_iast (t := 0) dSettings_restart_23 rfl (fun w23 _ => ?_)
  refine ee_aload_n 0 dSettings_restart_24 rfl ?_
  refine ee_getR dSettings_restart_25 lfSettings_11 (fun v25 _ => ?_)
  refine ee_iconst (v := (2 : Int32)) dSettings_restart_28 (by decide) ?_
  refine ee_gets (j := 2) (by decide) dSettings_restart_29 lsSettings_35 ?_
  refine ee_iconst (v := (2 : Int32)) dSettings_restart_32 (by decide) ?_
  refine ee_tald (by decide) dSettings_restart_33 (fun v33 _ => ?_)
  refine ee_iast (t := 0) dSettings_restart_34 rfl (fun w34 _ => ?_)
  refine ee_iconst (v := (0 : Int32)) dSettings_restart_35 (by decide) ?_
  refine ee_istore_n (lv2 := [(3, .int (0 : Int32)), (0, .ref l0), (1, .int l1), (2, .int l2)]) dSettings_restart_36 (Nat.le_of_ble_eq_true rfl) rfl ?_
  refine ee_pick [1, 0] rfl ?_
  exact t_fSettings_restart_37 FUEL _ _ w34
def fSettings_slotOf_34 (l2 : Int32) (s0 : Int32) (w : PW) : PX := some (.inl (some (.int ((l2 * (5 : Int32)) + s0))), w)
set_option maxRecDepth 20000 in
set_option maxHeartbeats 2000000 in
theorem t_fSettings_slotOf_34 {Γ : PG} : ∀ (l2 : Int32) (s0 : Int32) (w : PW), EE Γ MSettings_slotOf 34 [(2, .int l2)] [.int s0] w (fSettings_slotOf_34 l2 s0 w) := by
  intro l2 s0 w
  unfold fSettings_slotOf_34
  refine ee_istore_n (lv2 := [(3, .int s0), (2, .int l2)]) dSettings_slotOf_34 (Nat.le_of_ble_eq_true rfl) rfl ?_
  refine ee_iload_n 1 dSettings_slotOf_35 rfl ?_
  refine ee_iconst (v := (5 : Int32)) dSettings_slotOf_36 (by decide) ?_
  refine ee_imul dSettings_slotOf_37 ?_
  refine ee_iload_n 0 dSettings_slotOf_38 rfl ?_
  refine ee_iadd dSettings_slotOf_39 ?_
  exact ee_iret rfl dSettings_slotOf_40
def fSettings_slotOf_17 (l1 : Int32) (s0 : Int32) (w : PW) : PX := if l1 < 0 then (fSettings_slotOf_34 s0 (0 : Int32) w) else (if (4 : Int32) ≤ l1 then (fSettings_slotOf_34 s0 (0 : Int32) w) else (fSettings_slotOf_34 s0 (l1 + (1 : Int32)) w))
set_option maxRecDepth 20000 in
set_option maxHeartbeats 2000000 in
theorem t_fSettings_slotOf_17 {Γ : PG} : ∀ (l1 : Int32) (s0 : Int32) (w : PW), EE Γ MSettings_slotOf 17 [(1, .int l1)] [.int s0] w (fSettings_slotOf_17 l1 s0 w) := by
  intro l1 s0 w
  unfold fSettings_slotOf_17
  refine ee_istore_n (lv2 := [(2, .int s0), (1, .int l1)]) dSettings_slotOf_17 (Nat.le_of_ble_eq_true rfl) rfl ?_
  refine ee_iload_n 1 dSettings_slotOf_18 rfl ?_
  refine ee_if_lt (tgt := 33) dSettings_slotOf_19 (by decide) (fun h19 => ?_) (fun h19 => ?_)
  · refine ee_iconst (v := (0 : Int32)) dSettings_slotOf_33 (by decide) ?_
    refine ee_pick [0] rfl ?_
    exact t_fSettings_slotOf_34 _ _ w
  · refine ee_iload_n 1 dSettings_slotOf_22 rfl ?_
    refine ee_iconst (v := (4 : Int32)) dSettings_slotOf_23 (by decide) ?_
    refine ee_icmp_ge (tgt := 33) dSettings_slotOf_24 (by decide) (fun h24 => ?_) (fun h24 => ?_)
    · refine ee_iconst (v := (0 : Int32)) dSettings_slotOf_33 (by decide) ?_
      refine ee_pick [0] rfl ?_
      exact t_fSettings_slotOf_34 _ _ w
    · refine ee_iload_n 1 dSettings_slotOf_27 rfl ?_
      refine ee_iconst (v := (1 : Int32)) dSettings_slotOf_28 (by decide) ?_
      refine ee_iadd dSettings_slotOf_29 ?_
      refine ee_goto (tgt := 34) dSettings_slotOf_30 (by decide) ?_
      refine ee_pick [0] rfl ?_
      exact t_fSettings_slotOf_34 _ _ w
def fSettings_slotOf (l0 : Int32) (l1 : Int32) (w : PW) : PX := if l0 < 0 then (fSettings_slotOf_17 l1 (0 : Int32) w) else (if (24 : Int32) ≤ l0 then (fSettings_slotOf_17 l1 (0 : Int32) w) else (fSettings_slotOf_17 l1 (l0 + (1 : Int32)) w))
set_option maxRecDepth 20000 in
set_option maxHeartbeats 2000000 in
theorem t_fSettings_slotOf {Γ : PG} : ∀ (l0 : Int32) (l1 : Int32) (w : PW), EE Γ MSettings_slotOf 0 (lv_args 0 [.int l0, .int l1]) [] w (fSettings_slotOf l0 l1 w) := by
  intro l0 l1 w
  unfold fSettings_slotOf
  show EE Γ MSettings_slotOf 0 [(0, .int l0), (1, .int l1)] [] w _
  refine ee_iload_n 0 dSettings_slotOf_0 rfl ?_
  refine ee_if_lt (tgt := 16) dSettings_slotOf_1 (by decide) (fun h1 => ?_) (fun h1 => ?_)
  · refine ee_iconst (v := (0 : Int32)) dSettings_slotOf_16 (by decide) ?_
    refine ee_pick [1] rfl ?_
    exact t_fSettings_slotOf_17 _ _ w
  · refine ee_iload_n 0 dSettings_slotOf_4 rfl ?_
    refine ee_bipush (v := (24 : Int32)) dSettings_slotOf_5 (by decide) ?_
    refine ee_icmp_ge (tgt := 16) dSettings_slotOf_7 (by decide) (fun h7 => ?_) (fun h7 => ?_)
    · refine ee_iconst (v := (0 : Int32)) dSettings_slotOf_16 (by decide) ?_
      refine ee_pick [1] rfl ?_
      exact t_fSettings_slotOf_17 _ _ w
    · refine ee_iload_n 0 dSettings_slotOf_10 rfl ?_
      refine ee_iconst (v := (1 : Int32)) dSettings_slotOf_11 (by decide) ?_
      refine ee_iadd dSettings_slotOf_12 ?_
      refine ee_goto (tgt := 17) dSettings_slotOf_13 (by decide) ?_
      refine ee_pick [1] rfl ?_
      exact t_fSettings_slotOf_17 _ _ w
def fSettings_forgetTile_2 : Nat → Nat → Int32 → Int32 → PW → PX
  | 0, _, _, _, _ => none
  | n9 + 1, l0, l1, l2, w => if (4 : Int32) ≤ l2 then (some (.inl none, w)) else ((p_getR w l0 7 3).bind fun v8 => p_call (fSettings_slotOf l1 l2 w) <| p_kI fun v13 w13 => (p_ast w13 v8 2 v13 (vp_nar .boolean (0 : Int32))).bind fun w17 => (p_getR w17 l0 7 4).bind fun v19 => p_call (fSettings_slotOf l1 l2 w17) <| p_kI fun v24 w24 => (p_ast w24 v19 2 v24 (vp_nar .boolean (0 : Int32))).bind fun w28 => p_let (l2 + (1 : Int32)) fun (l2_29 : Int32) => (fSettings_forgetTile_2 n9) l0 l1 l2_29 w28)
set_option maxRecDepth 20000 in
set_option maxHeartbeats 2000000 in
theorem t_fSettings_forgetTile_2 {Γ : PG} : ∀ (n9 : Nat) (l0 : Nat) (l1 : Int32) (l2 : Int32) (w : PW), EE Γ MSettings_forgetTile 2 [(0, .ref l0), (1, .int l1), (2, .int l2)] [] w (fSettings_forgetTile_2 n9 l0 l1 l2 w) := by
  intro n9
  induction n9 with
  | zero => intro l0 l1 l2 w; exact ee_none
  | succ n9 ih =>
    intro l0 l1 l2 w
    unfold fSettings_forgetTile_2
    refine ee_iload_n 2 dSettings_forgetTile_2 rfl ?_
    refine ee_iconst (v := (4 : Int32)) dSettings_forgetTile_3 (by decide) ?_
    refine ee_icmp_ge (tgt := 35) dSettings_forgetTile_4 (by decide) (fun h4 => ?_) (fun h4 => ?_)
    · exact ee_vret rfl dSettings_forgetTile_35
    · refine ee_aload_n 0 dSettings_forgetTile_7 rfl ?_
      refine ee_getR dSettings_forgetTile_8 lfSettings_21 (fun v8 _ => ?_)
      refine ee_iload_n 1 dSettings_forgetTile_11 rfl ?_
      refine ee_iload_n 2 dSettings_forgetTile_12 rfl ?_
      refine ee_callS (as := [.int l1, .int l2]) (st := [.ref v8]) dSettings_forgetTile_13 (t_fSettings_slotOf l1 l2 w) my_fSettings_slotOf.1 (Nat.le_of_ble_eq_true rfl) my_fSettings_slotOf.2 rfl gw_425 gw_426 ⟨Nat.le_of_ble_eq_true rfl, Nat.le_of_ble_eq_true rfl⟩ (Nat.le_of_ble_eq_true rfl) (fun rv13 w13 _ => ?_)
      refine ee_kI (fun v13 => ?_)
      refine ee_iconst (v := (0 : Int32)) dSettings_forgetTile_16 (by decide) ?_
      refine ee_zast (t := 2) dSettings_forgetTile_17 rfl (fun w17 _ => ?_)
      refine ee_aload_n 0 dSettings_forgetTile_18 rfl ?_
      refine ee_getR dSettings_forgetTile_19 lfSettings_25 (fun v19 _ => ?_)
      refine ee_iload_n 1 dSettings_forgetTile_22 rfl ?_
      refine ee_iload_n 2 dSettings_forgetTile_23 rfl ?_
      refine ee_callS (as := [.int l1, .int l2]) (st := [.ref v19]) dSettings_forgetTile_24 (t_fSettings_slotOf l1 l2 w17) my_fSettings_slotOf.1 (Nat.le_of_ble_eq_true rfl) my_fSettings_slotOf.2 rfl gw_425 gw_426 ⟨Nat.le_of_ble_eq_true rfl, Nat.le_of_ble_eq_true rfl⟩ (Nat.le_of_ble_eq_true rfl) (fun rv24 w24 _ => ?_)
      refine ee_kI (fun v24 => ?_)
      refine ee_iconst (v := (0 : Int32)) dSettings_forgetTile_27 (by decide) ?_
      refine ee_zast (t := 2) dSettings_forgetTile_28 rfl (fun w28 _ => ?_)
      refine ee_iinc 2 dSettings_forgetTile_29 rfl (e := (1 : Int32)) (by decide) (Nat.le_of_ble_eq_true rfl) (fun l2_29 _ => ?_)
      refine ee_lv (lv2 := [(2, .int l2_29), (0, .ref l0), (1, .int l1)]) rfl ?_
      refine ee_goto (tgt := 2) dSettings_forgetTile_32 (by decide) ?_
      refine ee_pick [1, 2, 0] rfl ?_
      exact ih _ _ _ w28
def fSettings_forgetTile (l0 : Nat) (l1 : Int32) (w : PW) : PX := fSettings_forgetTile_2 FUEL l0 l1 (-1 : Int32) w
set_option maxRecDepth 20000 in
set_option maxHeartbeats 2000000 in
theorem t_fSettings_forgetTile {Γ : PG} : ∀ (l0 : Nat) (l1 : Int32) (w : PW), EE Γ MSettings_forgetTile 0 (lv_args 0 [.ref l0, .int l1]) [] w (fSettings_forgetTile l0 l1 w) := by
  intro l0 l1 w
  unfold fSettings_forgetTile
  show EE Γ MSettings_forgetTile 0 [(0, .ref l0), (1, .int l1)] [] w _
  refine ee_iconst (v := (-1 : Int32)) dSettings_forgetTile_0 (by decide) ?_
  refine ee_istore_n (lv2 := [(2, .int (-1 : Int32)), (0, .ref l0), (1, .int l1)]) dSettings_forgetTile_1 (Nat.le_of_ble_eq_true rfl) rfl ?_
  refine ee_pick [1, 2, 0] rfl ?_
  exact t_fSettings_forgetTile_2 FUEL _ _ _ w
def fSettings_asManyAsItTakes (l0 : Int32) (l1 : Int32) (w : PW) : PX := if (1 : Int32) ≤ l1 then ((p_idiv ((l0 + l1) - (1 : Int32)) l1).bind fun v15 => some (.inl (some (.int v15)), w)) else (some (.inl (some (.int (0 : Int32))), w))
set_option maxRecDepth 20000 in
set_option maxHeartbeats 2000000 in
theorem t_fSettings_asManyAsItTakes {Γ : PG} : ∀ (l0 : Int32) (l1 : Int32) (w : PW), EE Γ MSettings_asManyAsItTakes 0 (lv_args 0 [.int l0, .int l1]) [] w (fSettings_asManyAsItTakes l0 l1 w) := by
  intro l0 l1 w
  unfold fSettings_asManyAsItTakes
  show EE Γ MSettings_asManyAsItTakes 0 [(0, .int l0), (1, .int l1)] [] w _
  refine ee_iload_n 1 dSettings_asManyAsItTakes_0 rfl ?_
  refine ee_iconst (v := (1 : Int32)) dSettings_asManyAsItTakes_1 (by decide) ?_
  refine ee_icmp_ge (tgt := 9) dSettings_asManyAsItTakes_2 (by decide) (fun h2 => ?_) (fun h2 => ?_)
  · refine ee_iload_n 0 dSettings_asManyAsItTakes_9 rfl ?_
    refine ee_iload_n 1 dSettings_asManyAsItTakes_10 rfl ?_
    refine ee_iadd dSettings_asManyAsItTakes_11 ?_
    refine ee_iconst (v := (1 : Int32)) dSettings_asManyAsItTakes_12 (by decide) ?_
    refine ee_isub dSettings_asManyAsItTakes_13 ?_
    refine ee_iload_n 1 dSettings_asManyAsItTakes_14 rfl ?_
    refine ee_idiv dSettings_asManyAsItTakes_15 (fun v15 _ => ?_)
    exact ee_iret rfl dSettings_asManyAsItTakes_16
  · refine ee_iconst (v := (0 : Int32)) dSettings_asManyAsItTakes_5 (by decide) ?_
    refine ee_goto (tgt := 16) dSettings_asManyAsItTakes_6 (by decide) ?_
    exact ee_iret rfl dSettings_asManyAsItTakes_16
def fSettings_tilesFor (l0 : Nat) (l1 : Int32) (l2 : Int32) (w : PW) : PX := (p_getI w l0 7 5).bind fun v2 => p_call (fSettings_asManyAsItTakes l1 v2 w) <| p_kI fun v5 w5 => (p_getI w5 l0 7 6).bind fun v10 => p_call (fSettings_asManyAsItTakes l2 v10 w5) <| p_kI fun v13 w13 => some (.inl (some (.int (v5 * v13))), w13)
set_option maxRecDepth 20000 in
set_option maxHeartbeats 2000000 in
theorem t_fSettings_tilesFor {Γ : PG} : ∀ (l0 : Nat) (l1 : Int32) (l2 : Int32) (w : PW), EE Γ MSettings_tilesFor 0 (lv_args 0 [.ref l0, .int l1, .int l2]) [] w (fSettings_tilesFor l0 l1 l2 w) := by
  intro l0 l1 l2 w
  unfold fSettings_tilesFor
  show EE Γ MSettings_tilesFor 0 [(0, .ref l0), (1, .int l1), (2, .int l2)] [] w _
  refine ee_iload_n 1 dSettings_tilesFor_0 rfl ?_
  refine ee_aload_n 0 dSettings_tilesFor_1 rfl ?_
  refine ee_getI dSettings_tilesFor_2 lfSettings_28 (fun v2 _ => ?_)
  refine ee_callS (as := [.int l1, .int v2]) (st := []) dSettings_tilesFor_5 (t_fSettings_asManyAsItTakes l1 v2 w) my_fSettings_asManyAsItTakes.1 (Nat.le_of_ble_eq_true rfl) my_fSettings_asManyAsItTakes.2 rfl gw_626 gw_627 ⟨Nat.le_of_ble_eq_true rfl, Nat.le_of_ble_eq_true rfl⟩ (Nat.le_of_ble_eq_true rfl) (fun rv5 w5 _ => ?_)
  refine ee_kI (fun v5 => ?_)
  refine ee_iload_n 2 dSettings_tilesFor_8 rfl ?_
  refine ee_aload_n 0 dSettings_tilesFor_9 rfl ?_
  refine ee_getI dSettings_tilesFor_10 lfSettings_32 (fun v10 _ => ?_)
  refine ee_callS (as := [.int l2, .int v10]) (st := [.int v5]) dSettings_tilesFor_13 (t_fSettings_asManyAsItTakes l2 v10 w5) my_fSettings_asManyAsItTakes.1 (Nat.le_of_ble_eq_true rfl) my_fSettings_asManyAsItTakes.2 rfl gw_626 gw_627 ⟨Nat.le_of_ble_eq_true rfl, Nat.le_of_ble_eq_true rfl⟩ (Nat.le_of_ble_eq_true rfl) (fun rv13 w13 _ => ?_)
  refine ee_kI (fun v13 => ?_)
  refine ee_imul dSettings_tilesFor_16 ?_
  exact ee_iret rfl dSettings_tilesFor_17
def fSettings_tiles (l0 : Nat) (w : PW) : PX := (p_getR w l0 7 0).bind fun v2 => (p_ald w v2 0 (0 : Int32)).bind fun v6 => (p_getR w l0 7 0).bind fun v8 => (p_ald w v8 0 (1 : Int32)).bind fun v12 => (p_obj w l0 7).bind fun _ => p_call (fSettings_tilesFor l0 v6 v12 w) <| p_kI fun v13 w13 => some (.inl (some (.int v13)), w13)
set_option maxRecDepth 20000 in
set_option maxHeartbeats 2000000 in
theorem t_fSettings_tiles {Γ : PG} : ∀ (l0 : Nat) (w : PW), EE Γ MSettings_tiles 0 (lv_args 0 [.ref l0]) [] w (fSettings_tiles l0 w) := by
  intro l0 w
  unfold fSettings_tiles
  show EE Γ MSettings_tiles 0 [(0, .ref l0)] [] w _
  refine ee_aload_n 0 dSettings_tiles_0 rfl ?_
  refine ee_aload_n 0 dSettings_tiles_1 rfl ?_
  refine ee_getR dSettings_tiles_2 lfSettings_11 (fun v2 _ => ?_)
  refine ee_iconst (v := (0 : Int32)) dSettings_tiles_5 (by decide) ?_
  refine ee_iald (t := 0) dSettings_tiles_6 rfl (fun v6 _ => ?_)
  refine ee_aload_n 0 dSettings_tiles_7 rfl ?_
  refine ee_getR dSettings_tiles_8 lfSettings_11 (fun v8 _ => ?_)
  refine ee_iconst (v := (1 : Int32)) dSettings_tiles_11 (by decide) ?_
  refine ee_iald (t := 0) dSettings_tiles_12 rfl (fun v12 _ => ?_)
  refine ee_bind (fun _ ho13 => ?_)
  refine ee_callV (as := [.int v6, .int v12]) (st := []) dSettings_tiles_13 (t_fSettings_tilesFor l0 v6 v12 w) my_fSettings_tilesFor.1 (Nat.le_of_ble_eq_true rfl) my_fSettings_tilesFor.2 rfl cf_7.1 rfl (p_obj_eq.mp ho13) gw_622 gw_623 gw_624 ⟨Nat.le_of_ble_eq_true rfl, Nat.le_of_ble_eq_true rfl⟩ (Nat.le_of_ble_eq_true rfl) (fun rv13 w13 _ => ?_)
  refine ee_kI (fun v13 => ?_)
  exact ee_iret rfl dSettings_tiles_16
def fSettings_isTile (l0 : Nat) (l1 : Int32) (w : PW) : PX := if l1 < 0 then (p_retZ (0 : Int32) w) else ((p_obj w l0 7).bind fun _ => p_call (fSettings_tiles l0 w) <| p_kI fun v6 w6 => if v6 ≤ l1 then (p_retZ (0 : Int32) w6) else (p_retZ (1 : Int32) w6))
set_option maxRecDepth 20000 in
set_option maxHeartbeats 2000000 in
theorem t_fSettings_isTile {Γ : PG} : ∀ (l0 : Nat) (l1 : Int32) (w : PW), EE Γ MSettings_isTile 0 (lv_args 0 [.ref l0, .int l1]) [] w (fSettings_isTile l0 l1 w) := by
  intro l0 l1 w
  unfold fSettings_isTile
  show EE Γ MSettings_isTile 0 [(0, .ref l0), (1, .int l1)] [] w _
  refine ee_iload_n 1 dSettings_isTile_0 rfl ?_
  refine ee_if_lt (tgt := 16) dSettings_isTile_1 (by decide) (fun h1 => ?_) (fun h1 => ?_)
  · refine ee_iconst (v := (0 : Int32)) dSettings_isTile_16 (by decide) ?_
    exact ee_zret rfl dSettings_isTile_17
  · refine ee_iload_n 1 dSettings_isTile_4 rfl ?_
    refine ee_aload_n 0 dSettings_isTile_5 rfl ?_
    refine ee_bind (fun _ ho6 => ?_)
    refine ee_callV (as := []) (st := [.int l1]) dSettings_isTile_6 (t_fSettings_tiles l0 w) my_fSettings_tiles.1 (Nat.le_of_ble_eq_true rfl) my_fSettings_tiles.2 rfl cf_7.1 rfl (p_obj_eq.mp ho6) gw_684 gw_619 gw_620 ⟨Nat.le_of_ble_eq_true rfl, Nat.le_of_ble_eq_true rfl⟩ (Nat.le_of_ble_eq_true rfl) (fun rv6 w6 _ => ?_)
    refine ee_kI (fun v6 => ?_)
    refine ee_icmp_ge (tgt := 16) dSettings_isTile_9 (by decide) (fun h9 => ?_) (fun h9 => ?_)
    · refine ee_iconst (v := (0 : Int32)) dSettings_isTile_16 (by decide) ?_
      exact ee_zret rfl dSettings_isTile_17
    · refine ee_iconst (v := (1 : Int32)) dSettings_isTile_12 (by decide) ?_
      refine ee_goto (tgt := 17) dSettings_isTile_13 (by decide) ?_
      exact ee_zret rfl dSettings_isTile_17
def fSettings_isComponent (l0 : Nat) (l1 : Int32) (w : PW) : PX := if l1 < 0 then (p_retZ (0 : Int32) w) else ((p_getR w l0 7 0).bind fun v6 => (p_ald w v6 0 (2 : Int32)).bind fun v10 => if v10 ≤ l1 then (p_retZ (0 : Int32) w) else (p_retZ (1 : Int32) w))
set_option maxRecDepth 20000 in
set_option maxHeartbeats 2000000 in
theorem t_fSettings_isComponent {Γ : PG} : ∀ (l0 : Nat) (l1 : Int32) (w : PW), EE Γ MSettings_isComponent 0 (lv_args 0 [.ref l0, .int l1]) [] w (fSettings_isComponent l0 l1 w) := by
  intro l0 l1 w
  unfold fSettings_isComponent
  show EE Γ MSettings_isComponent 0 [(0, .ref l0), (1, .int l1)] [] w _
  refine ee_iload_n 1 dSettings_isComponent_0 rfl ?_
  refine ee_if_lt (tgt := 18) dSettings_isComponent_1 (by decide) (fun h1 => ?_) (fun h1 => ?_)
  · refine ee_iconst (v := (0 : Int32)) dSettings_isComponent_18 (by decide) ?_
    exact ee_zret rfl dSettings_isComponent_19
  · refine ee_iload_n 1 dSettings_isComponent_4 rfl ?_
    refine ee_aload_n 0 dSettings_isComponent_5 rfl ?_
    refine ee_getR dSettings_isComponent_6 lfSettings_11 (fun v6 _ => ?_)
    refine ee_iconst (v := (2 : Int32)) dSettings_isComponent_9 (by decide) ?_
    refine ee_iald (t := 0) dSettings_isComponent_10 rfl (fun v10 _ => ?_)
    refine ee_icmp_ge (tgt := 18) dSettings_isComponent_11 (by decide) (fun h11 => ?_) (fun h11 => ?_)
    · refine ee_iconst (v := (0 : Int32)) dSettings_isComponent_18 (by decide) ?_
      exact ee_zret rfl dSettings_isComponent_19
    · refine ee_iconst (v := (1 : Int32)) dSettings_isComponent_14 (by decide) ?_
      refine ee_goto (tgt := 19) dSettings_isComponent_15 (by decide) ?_
      exact ee_zret rfl dSettings_isComponent_19
def fW_isWithin (l0 : Int32) (l1 : Int64) (w : PW) : PX := if l0 < 0 then (p_retZ (0 : Int32) w) else (if (p_tlen 0) ≤ l0 then (p_retZ (0 : Int32) w) else ((p_tab 0 l0).bind fun v17 => if (lg_cmp l1 (Int32.toInt64 v17)) < 0 then (p_retZ (0 : Int32) w) else ((p_tab 1 l0).bind fun v28 => if 0 < (lg_cmp l1 (Int32.toInt64 v28)) then (p_retZ (0 : Int32) w) else (p_retZ (1 : Int32) w))))
set_option maxRecDepth 20000 in
set_option maxHeartbeats 2000000 in
theorem t_fW_isWithin {Γ : PG} : ∀ (l0 : Int32) (l1 : Int64) (w : PW), EE Γ MW_isWithin 0 (lv_args 0 [.int l0, .long l1]) [] w (fW_isWithin l0 l1 w) := by
  intro l0 l1 w
  unfold fW_isWithin
  show EE Γ MW_isWithin 0 [(0, .int l0), (1, .long l1)] [] w _
  refine ee_iload_n 0 dW_isWithin_0 rfl ?_
  refine ee_if_lt (tgt := 38) dW_isWithin_1 (by decide) (fun h1 => ?_) (fun h1 => ?_)
  · refine ee_iconst (v := (0 : Int32)) dW_isWithin_38 (by decide) ?_
    exact ee_zret rfl dW_isWithin_39
  · refine ee_iload_n 0 dW_isWithin_4 rfl ?_
    refine ee_gets (j := 0) (by decide) dW_isWithin_5 lsW_334 ?_
    refine ee_tlen (by decide) dW_isWithin_8 ?_
    refine ee_icmp_ge (tgt := 38) dW_isWithin_9 (by decide) (fun h9 => ?_) (fun h9 => ?_)
    · refine ee_iconst (v := (0 : Int32)) dW_isWithin_38 (by decide) ?_
      exact ee_zret rfl dW_isWithin_39
    · refine ee_lload_n 1 dW_isWithin_12 rfl ?_
      refine ee_gets (j := 0) (by decide) dW_isWithin_13 lsW_334 ?_
      refine ee_iload_n 0 dW_isWithin_16 rfl ?_
      refine ee_tald (by decide) dW_isWithin_17 (fun v17 _ => ?_)
      refine ee_i2l dW_isWithin_18 ?_
      refine ee_lcmp dW_isWithin_19 ?_
      refine ee_if_lt (tgt := 38) dW_isWithin_20 (by decide) (fun h20 => ?_) (fun h20 => ?_)
      · refine ee_iconst (v := (0 : Int32)) dW_isWithin_38 (by decide) ?_
        exact ee_zret rfl dW_isWithin_39
      · refine ee_lload_n 1 dW_isWithin_23 rfl ?_
        refine ee_gets (j := 1) (by decide) dW_isWithin_24 lsW_337 ?_
        refine ee_iload_n 0 dW_isWithin_27 rfl ?_
        refine ee_tald (by decide) dW_isWithin_28 (fun v28 _ => ?_)
        refine ee_i2l dW_isWithin_29 ?_
        refine ee_lcmp dW_isWithin_30 ?_
        refine ee_if_gt (tgt := 38) dW_isWithin_31 (by decide) (fun h31 => ?_) (fun h31 => ?_)
        · refine ee_iconst (v := (0 : Int32)) dW_isWithin_38 (by decide) ?_
          exact ee_zret rfl dW_isWithin_39
        · refine ee_iconst (v := (1 : Int32)) dW_isWithin_34 (by decide) ?_
          refine ee_goto (tgt := 39) dW_isWithin_35 (by decide) ?_
          exact ee_zret rfl dW_isWithin_39
def fSettings_allows_41 (l0 : Nat) (l3 : Int32) (s0 : Int32) (w : PW) : PX := (p_obj w l0 7).bind fun _ => p_call (fSettings_tilesFor l0 l3 s0 w) <| p_kI fun v47 w47 => if (24 : Int32) < v47 then (p_retZ (0 : Int32) w47) else (p_retZ (1 : Int32) w47)
set_option maxRecDepth 20000 in
set_option maxHeartbeats 2000000 in
theorem t_fSettings_allows_41 {Γ : PG} : ∀ (l0 : Nat) (l3 : Int32) (s0 : Int32) (w : PW), EE Γ MSettings_allows 41 [(0, .ref l0), (3, .int l3)] [.int s0] w (fSettings_allows_41 l0 l3 s0 w) := by
  intro l0 l3 s0 w
  unfold fSettings_allows_41
  refine ee_istore (lv2 := [(4, .int s0), (0, .ref l0), (3, .int l3)]) dSettings_allows_41 (Nat.le_of_ble_eq_true rfl) rfl ?_
  refine ee_aload_n 1 dSettings_allows_43 rfl ?_
  refine ee_iload_n 2 dSettings_allows_44 rfl ?_
  refine ee_iload 0 dSettings_allows_45 rfl ?_
  refine ee_bind (fun _ ho47 => ?_)
  refine ee_callV (as := [.int l3, .int s0]) (st := []) dSettings_allows_47 (t_fSettings_tilesFor l0 l3 s0 w) my_fSettings_tilesFor.1 (Nat.le_of_ble_eq_true rfl) my_fSettings_tilesFor.2 rfl cf_7.1 rfl (p_obj_eq.mp ho47) gw_622 gw_623 gw_624 ⟨Nat.le_of_ble_eq_true rfl, Nat.le_of_ble_eq_true rfl⟩ (Nat.le_of_ble_eq_true rfl) (fun rv47 w47 _ => ?_)
  refine ee_kI (fun v47 => ?_)
  refine ee_bipush (v := (24 : Int32)) dSettings_allows_50 (by decide) ?_
  refine ee_icmp_gt (tgt := 59) dSettings_allows_52 (by decide) (fun h52 => ?_) (fun h52 => ?_)
  · refine ee_iconst (v := (0 : Int32)) dSettings_allows_59 (by decide) ?_
    exact ee_zret rfl dSettings_allows_60
  · refine ee_iconst (v := (1 : Int32)) dSettings_allows_55 (by decide) ?_
    refine ee_goto (tgt := 60) dSettings_allows_56 (by decide) ?_
    exact ee_zret rfl dSettings_allows_60
def fSettings_allows_25 (l0 : Nat) (l1 : Int32) (l2 : Int32) (s0 : Int32) (w : PW) : PX := if ¬ l1 = (1 : Int32) then ((p_getR w l0 7 0).bind fun v36 => (p_ald w v36 0 (1 : Int32)).bind fun v40 => fSettings_allows_41 l0 s0 v40 w) else (fSettings_allows_41 l0 s0 l2 w)
set_option maxRecDepth 20000 in
set_option maxHeartbeats 2000000 in
theorem t_fSettings_allows_25 {Γ : PG} : ∀ (l0 : Nat) (l1 : Int32) (l2 : Int32) (s0 : Int32) (w : PW), EE Γ MSettings_allows 25 [(0, .ref l0), (1, .int l1), (2, .int l2)] [.int s0] w (fSettings_allows_25 l0 l1 l2 s0 w) := by
  intro l0 l1 l2 s0 w
  unfold fSettings_allows_25
  refine ee_istore_n (lv2 := [(3, .int s0), (0, .ref l0), (1, .int l1), (2, .int l2)]) dSettings_allows_25 (Nat.le_of_ble_eq_true rfl) rfl ?_
  refine ee_iload_n 2 dSettings_allows_26 rfl ?_
  refine ee_iconst (v := (1 : Int32)) dSettings_allows_27 (by decide) ?_
  refine ee_icmp_ne (tgt := 35) dSettings_allows_28 (by decide) (fun h28 => ?_) (fun h28 => ?_)
  · refine ee_aload_n 1 dSettings_allows_35 rfl ?_
    refine ee_getR dSettings_allows_36 lfSettings_11 (fun v36 _ => ?_)
    refine ee_iconst (v := (1 : Int32)) dSettings_allows_39 (by decide) ?_
    refine ee_iald (t := 0) dSettings_allows_40 rfl (fun v40 _ => ?_)
    refine ee_pick [1, 0] rfl ?_
    exact t_fSettings_allows_41 _ _ _ w
  · refine ee_iload_n 3 dSettings_allows_31 rfl ?_
    refine ee_goto (tgt := 41) dSettings_allows_32 (by decide) ?_
    refine ee_pick [1, 0] rfl ?_
    exact t_fSettings_allows_41 _ _ _ w
def fSettings_allows (l0 : Nat) (l1 : Int32) (l2 : Int32) (w : PW) : PX := p_call (fW_isWithin l1 (Int32.toInt64 l2) w) <| p_kI fun v3 w3 => if ¬ v3 = 0 then (if ¬ l1 = 0 then ((p_getR w3 l0 7 0).bind fun v20 => (p_ald w3 v20 0 (0 : Int32)).bind fun v24 => fSettings_allows_25 l0 l1 l2 v24 w3) else (fSettings_allows_25 l0 l1 l2 l2 w3)) else (p_retZ (0 : Int32) w3)
set_option maxRecDepth 20000 in
set_option maxHeartbeats 2000000 in
theorem t_fSettings_allows {Γ : PG} : ∀ (l0 : Nat) (l1 : Int32) (l2 : Int32) (w : PW), EE Γ MSettings_allows 0 (lv_args 0 [.ref l0, .int l1, .int l2]) [] w (fSettings_allows l0 l1 l2 w) := by
  intro l0 l1 l2 w
  unfold fSettings_allows
  show EE Γ MSettings_allows 0 [(0, .ref l0), (1, .int l1), (2, .int l2)] [] w _
  refine ee_iload_n 1 dSettings_allows_0 rfl ?_
  refine ee_iload_n 2 dSettings_allows_1 rfl ?_
  refine ee_i2l dSettings_allows_2 ?_
  refine ee_callSN (as := [.int l1, .long (Int32.toInt64 l2)]) (st := []) dSettings_allows_3 (t_fW_isWithin l1 (Int32.toInt64 l2) w) my_fW_isWithin.1 (Nat.le_of_ble_eq_true rfl) my_fW_isWithin.2 rfl gw_851 gw_604 ⟨Nat.le_of_ble_eq_true rfl, Nat.le_of_ble_eq_true rfl⟩ (Nat.le_of_ble_eq_true rfl) (fun rv3 w3 _ => ?_)
  refine ee_kI (fun v3 => ?_)
  refine ee_if_ne (tgt := 11) dSettings_allows_6 (by decide) (fun h6 => ?_) (fun h6 => ?_)
  · refine ee_iload_n 1 dSettings_allows_11 rfl ?_
    refine ee_if_ne (tgt := 19) dSettings_allows_12 (by decide) (fun h12 => ?_) (fun h12 => ?_)
    · refine ee_aload_n 0 dSettings_allows_19 rfl ?_
      refine ee_getR dSettings_allows_20 lfSettings_11 (fun v20 _ => ?_)
      refine ee_iconst (v := (0 : Int32)) dSettings_allows_23 (by decide) ?_
      refine ee_iald (t := 0) dSettings_allows_24 rfl (fun v24 _ => ?_)
      exact t_fSettings_allows_25 _ _ _ _ w3
    · refine ee_iload_n 2 dSettings_allows_15 rfl ?_
      refine ee_goto (tgt := 25) dSettings_allows_16 (by decide) ?_
      exact t_fSettings_allows_25 _ _ _ _ w3
  · refine ee_iconst (v := (0 : Int32)) dSettings_allows_9 (by decide) ?_
    exact ee_zret rfl dSettings_allows_10
