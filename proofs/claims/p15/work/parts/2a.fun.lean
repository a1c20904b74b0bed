def fBytes_init (l0 : Nat) (l1 : Int32) (w : PW) : PX := p_newA w 1 1 (32 : Int32) fun v7 w7 => (p_put w7 l0 2 1 (.ref v7)).bind fun w9 => (p_put w9 l0 2 2 (.int (0 : Int32))).bind fun w14 => (p_put w14 l0 2 0 (.int l1)).bind fun w19 => some (.inl none, w19)
set_option maxRecDepth 20000 in
set_option maxHeartbeats 2000000 in
theorem t_fBytes_init {Γ : PG} : ∀ (l0 : Nat) (l1 : Int32) (w : PW), EE Γ MBytes_init 0 (lv_args 0 [.ref l0, .int l1]) [] w (fBytes_init l0 l1 w) := by
  intro l0 l1 w
  unfold fBytes_init
  show EE Γ MBytes_init 0 [(0, .ref l0), (1, .int l1)] [] w _
  refine ee_aload_n 0 dBytes_init_0 rfl ?_
  refine ee_objInit dBytes_init_1 gw_163 gw_obji gw_objc ⟨Nat.le_of_ble_eq_true rfl, Nat.le_of_ble_eq_true rfl⟩ ?_
  refine ee_aload_n 0 dBytes_init_4 rfl ?_
  refine ee_bipush (v := (32 : Int32)) dBytes_init_5 (by decide) ?_
  refine ee_newB dBytes_init_7 (fun v7 w7 _ _ _ => ?_)
  refine ee_put dBytes_init_9 lpiBytes_11 (ee_nRA _ _) (fun w9 _ => ?_)
  refine ee_aload_n 0 dBytes_init_12 rfl ?_
  refine ee_iconst (v := (0 : Int32)) dBytes_init_13 (by decide) ?_
  refine ee_put dBytes_init_14 lpiBytes_15 (ee_nI _) (fun w14 _ => ?_)
  refine ee_aload_n 0 dBytes_init_17 rfl ?_
  refine ee_iload_n 1 dBytes_init_18 rfl ?_
  refine ee_put dBytes_init_19 lpiBytes_19 (ee_nI _) (fun w19 _ => ?_)
  exact ee_vret rfl dBytes_init_22
def fAR_copyOf2 (l0 : Nat) (l1 : Int32) (w : PW) : PX := (p_len w l0).bind fun v2 => if ¬ l1 = v2 then (p_newA w 1 1 l1 fun v15 w15 => (p_len w15 l0).bind fun v23 => (p_copy w15 1 .byte l0 (0 : Int32) v15 (0 : Int32) (p_min v23 l1)).bind fun w28 => some (.inl (some (.ref v15)), w28)) else (none)
set_option maxRecDepth 20000 in
set_option maxHeartbeats 2000000 in
theorem t_fAR_copyOf2 {Γ : PG} : ∀ (l0 : Nat) (l1 : Int32) (w : PW), EE Γ MAR_copyOf2 0 (lv_args 0 [.ref l0, .int l1]) [] w (fAR_copyOf2 l0 l1 w) := by
  intro l0 l1 w
  unfold fAR_copyOf2
  show EE Γ MAR_copyOf2 0 [(0, .ref l0), (1, .int l1)] [] w _
  refine ee_iload_n 1 dAR_copyOf2_0 rfl ?_
  refine ee_aload_n 0 dAR_copyOf2_1 rfl ?_
  refine ee_alen dAR_copyOf2_2 (fun v2 _ => ?_)
  refine ee_icmp_ne (tgt := 14) dAR_copyOf2_3 (by decide) (fun h3 => ?_) (fun h3 => ?_)
  · refine ee_iload_n 1 dAR_copyOf2_14 rfl ?_
    refine ee_newB dAR_copyOf2_15 (fun v15 w15 _ _ _ => ?_)
    refine ee_astore_n (lv2 := [(2, .ref v15), (0, .ref l0), (1, .int l1)]) dAR_copyOf2_17 (Nat.le_of_ble_eq_true rfl) rfl ?_
    refine ee_aload_n 1 dAR_copyOf2_18 rfl ?_
    refine ee_iconst (v := (0 : Int32)) dAR_copyOf2_19 (by decide) ?_
    refine ee_aload_n 0 dAR_copyOf2_20 rfl ?_
    refine ee_iconst (v := (0 : Int32)) dAR_copyOf2_21 (by decide) ?_
    refine ee_aload_n 1 dAR_copyOf2_22 rfl ?_
    refine ee_alen dAR_copyOf2_23 (fun v23 _ => ?_)
    refine ee_iload_n 2 dAR_copyOf2_24 rfl ?_
    refine ee_mmin dAR_copyOf2_25 gw_392 gw_mmins gw_mi gw_mminc ⟨Nat.le_of_ble_eq_true rfl, Nat.le_of_ble_eq_true rfl⟩ ?_
    refine ee_copy (t := 1) (ty := .byte) dAR_copyOf2_28 rfl rfl gw_393 gw_395 gw_394 gw_78 ⟨Nat.le_of_ble_eq_true rfl, by decide⟩ (fun w28 _ => ?_)
    refine ee_aload_n 0 dAR_copyOf2_31 rfl ?_
    exact ee_aret rfl (Or.inr ⟨_, rfl⟩) dAR_copyOf2_32
  · refine ee_aload_n 0 dAR_copyOf2_6 rfl ?_
    exact ee_none
def fBytes_append_50 (l0 : Nat) (l1 : Int32) (w : PW) : PX := (p_getR w l0 2 1).bind fun v51 => (p_getI w l0 2 2).bind fun v55 => (p_ast w v51 1 v55 (vp_nar .byte (p_i2b l1))).bind fun w60 => (p_getI w60 l0 2 2).bind fun v63 => (p_put w60 l0 2 2 (.int (v63 + (1 : Int32)))).bind fun w68 => p_retZ (1 : Int32) w68
set_option maxRecDepth 20000 in
set_option maxHeartbeats 2000000 in
theorem t_fBytes_append_50 {Γ : PG} : ∀ (l0 : Nat) (l1 : Int32) (w : PW), EE Γ MBytes_append 50 [(0, .ref l0), (1, .int l1)] [] w (fBytes_append_50 l0 l1 w) := by
  intro l0 l1 w
  unfold fBytes_append_50
  refine ee_aload_n 0 dBytes_append_50 rfl ?_
  refine ee_getR dBytes_append_51 lfBytes_11 (fun v51 _ => ?_)
  refine ee_aload_n 0 dBytes_append_54 rfl ?_
  refine ee_getI dBytes_append_55 lfBytes_15 (fun v55 _ => ?_)
  refine ee_iload_n 1 dBytes_append_58 rfl ?_
  refine ee_i2b dBytes_append_59 ?_
  refine ee_bast (t := 1) dBytes_append_60 rfl (fun w60 _ => ?_)
  refine ee_aload_n 0 dBytes_append_61 rfl ?_
  refine ee_dup dBytes_append_62 rfl ?_
  refine ee_getI dBytes_append_63 lfBytes_15 (fun v63 _ => ?_)
  refine ee_iconst (v := (1 : Int32)) dBytes_append_66 (by decide) ?_
  refine ee_iadd dBytes_append_67 ?_
  refine ee_put dBytes_append_68 lpBytes_15 (ee_nI _) (fun w68 _ => ?_)
  refine ee_iconst (v := (1 : Int32)) dBytes_append_71 (by decide) ?_
  exact ee_zret rfl dBytes_append_72
def fBytes_append (l0 : Nat) (l1 : Int32) (w : PW) : PX := (p_getI w l0 2 2).bind fun v1 => (p_getI w l0 2 0).bind fun v5 => if v1 < v5 then ((p_getI w l0 2 2).bind fun v14 => (p_getR w l0 2 1).bind fun v18 => (p_len w v18).bind fun v21 => if v14 < v21 then (fBytes_append_50 l0 l1 w) else ((p_getR w l0 2 1).bind fun v27 => (p_getI w l0 2 0).bind fun v31 => (p_getR w l0 2 1).bind fun v36 => (p_len w v36).bind fun v39 => p_call (fAR_copyOf2 v27 (p_min v31 ((2 : Int32) * v39)) w) <| p_kR fun v44 w44 => (p_put w44 l0 2 1 (.ref v44)).bind fun w47 => fBytes_append_50 l0 l1 w47)) else (p_retZ (0 : Int32) w)
set_option maxRecDepth 20000 in
set_option maxHeartbeats 2000000 in
theorem t_fBytes_append {Γ : PG} : ∀ (l0 : Nat) (l1 : Int32) (w : PW), EE Γ MBytes_append 0 (lv_args 0 [.ref l0, .int l1]) [] w (fBytes_append l0 l1 w) := by
  intro l0 l1 w
  unfold fBytes_append
  show EE Γ MBytes_append 0 [(0, .ref l0), (1, .int l1)] [] w _
  refine ee_aload_n 0 dBytes_append_0 rfl ?_
  refine ee_getI dBytes_append_1 lfBytes_15 (fun v1 _ => ?_)
  refine ee_aload_n 0 dBytes_append_4 rfl ?_
  refine ee_getI dBytes_append_5 lfBytes_19 (fun v5 _ => ?_)
  refine ee_icmp_lt (tgt := 13) dBytes_append_8 (by decide) (fun h8 => ?_) (fun h8 => ?_)
  · refine ee_aload_n 0 dBytes_append_13 rfl ?_
    refine ee_getI dBytes_append_14 lfBytes_15 (fun v14 _ => ?_)
    refine ee_aload_n 0 dBytes_append_17 rfl ?_
    refine ee_getR dBytes_append_18 lfBytes_11 (fun v18 _ => ?_)
    refine ee_alen dBytes_append_21 (fun v21 _ => ?_)
    refine ee_icmp_lt (tgt := 50) dBytes_append_22 (by decide) (fun h22 => ?_) (fun h22 => ?_)
    · exact t_fBytes_append_50 _ _ w
    · refine ee_aload_n 0 dBytes_append_25 rfl ?_
      refine ee_aload_n 0 dBytes_append_26 rfl ?_
      refine ee_getR dBytes_append_27 lfBytes_11 (fun v27 _ => ?_)
      refine ee_aload_n 0 dBytes_append_30 rfl ?_
      refine ee_getI dBytes_append_31 lfBytes_19 (fun v31 _ => ?_)
      refine ee_iconst (v := (2 : Int32)) dBytes_append_34 (by decide) ?_
      refine ee_aload_n 0 dBytes_append_35 rfl ?_
      refine ee_getR dBytes_append_36 lfBytes_11 (fun v36 _ => ?_)
      refine ee_alen dBytes_append_39 (fun v39 _ => ?_)
      refine ee_imul dBytes_append_40 ?_
      refine ee_mmin dBytes_append_41 gw_381 gw_mmins gw_mi gw_mminc ⟨Nat.le_of_ble_eq_true rfl, Nat.le_of_ble_eq_true rfl⟩ ?_
      refine ee_callS (as := [.ref v27, .int (p_min v31 ((2 : Int32) * v39))]) (st := [.ref l0]) dBytes_append_44 (t_fAR_copyOf2 v27 (p_min v31 ((2 : Int32) * v39)) w) my_fAR_copyOf2.1 (Nat.le_of_ble_eq_true rfl) my_fAR_copyOf2.2 rfl gw_382 gw_383 ⟨Nat.le_of_ble_eq_true rfl, Nat.le_of_ble_eq_true rfl⟩ (Nat.le_of_ble_eq_true rfl) (fun rv44 w44 _ => ?_)
      refine ee_kR (fun v44 => ?_)
      refine ee_put dBytes_append_47 lpBytes_11 (ee_nRA _ _) (fun w47 _ => ?_)
      exact t_fBytes_append_50 _ _ w47
  · refine ee_iconst (v := (0 : Int32)) dBytes_append_11 (by decide) ?_
    exact ee_zret rfl dBytes_append_12
def fBytes_appendNumber_7 : Nat → Nat → Int32 → Int32 → PW → PX
  | 0, _, _, _, _ => none
  | n9 + 1, l0, l1, l3, w => if l3 < 0 then (some (.inl none, w)) else ((p_obj w l0 2).bind fun _ => p_call (fBytes_append l0 ((p_ushr l1 l3) &&& (255 : Int32)) w) <| p_kI fun v19 w19 => p_let (l3 + (-8 : Int32)) fun (l3_23 : Int32) => (fBytes_appendNumber_7 n9) l0 l1 l3_23 w19)
set_option maxRecDepth 20000 in
set_option maxHeartbeats 2000000 in
theorem t_fBytes_appendNumber_7 {Γ : PG} : ∀ (n9 : Nat) (l0 : Nat) (l1 : Int32) (l3 : Int32) (w : PW), EE Γ MBytes_appendNumber 7 [(0, .ref l0), (1, .int l1), (3, .int l3)] [] w (fBytes_appendNumber_7 n9 l0 l1 l3 w) := by
  intro n9
  induction n9 with
  | zero => intro l0 l1 l3 w; exact ee_none
  | succ n9 ih =>
    intro l0 l1 l3 w
    unfold fBytes_appendNumber_7
    refine ee_iload_n 2 dBytes_appendNumber_7 rfl ?_
    refine ee_if_lt (tgt := 29) dBytes_appendNumber_8 (by decide) (fun h8 => ?_) (fun h8 => ?_)
    · exact ee_vret rfl dBytes_appendNumber_29
    · refine ee_aload_n 0 dBytes_appendNumber_11 rfl ?_
      refine ee_iload_n 1 dBytes_appendNumber_12 rfl ?_
      refine ee_iload_n 2 dBytes_appendNumber_13 rfl ?_
      refine ee_iushr dBytes_appendNumber_14 ?_
      refine ee_sipush (v := (255 : Int32)) dBytes_appendNumber_15 (by decide) ?_
      refine ee_iand dBytes_appendNumber_18 ?_
      refine ee_bind (fun _ ho19 => ?_)
      refine ee_callV (as := [.int ((p_ushr l1 l3) &&& (255 : Int32))]) (st := []) dBytes_appendNumber_19 (t_fBytes_append l0 ((p_ushr l1 l3) &&& (255 : Int32)) w) my_fBytes_append.1 (Nat.le_of_ble_eq_true rfl) my_fBytes_append.2 rfl cf_2.1 rfl (p_obj_eq.mp ho19) gw_377 gw_378 gw_379 ⟨Nat.le_of_ble_eq_true rfl, Nat.le_of_ble_eq_true rfl⟩ (Nat.le_of_ble_eq_true rfl) (fun rv19 w19 _ => ?_)
      refine ee_kI (fun v19 => ?_)
      refine ee_pop dBytes_appendNumber_22 rfl ?_
      refine ee_iinc 2 dBytes_appendNumber_23 rfl (e := (-8 : Int32)) (by decide) (Nat.le_of_ble_eq_true rfl) (fun l3_23 _ => ?_)
      refine ee_lv (lv2 := [(3, .int l3_23), (0, .ref l0), (1, .int l1)]) rfl ?_
      refine ee_goto (tgt := 7) dBytes_appendNumber_26 (by decide) ?_
      refine ee_pick [1, 2, 0] rfl ?_
      exact ih _ _ _ w19
def fBytes_appendNumber (l0 : Nat) (l1 : Int32) (l2 : Int32) (w : PW) : PX := p_let (((8 : Int32) * (l2 - (1 : Int32)))) fun (l3_6 : Int32) => fBytes_appendNumber_7 FUEL l0 l1 l3_6 w
set_option maxRecDepth 20000 in
set_option maxHeartbeats 2000000 in
theorem t_fBytes_appendNumber {Γ : PG} : ∀ (l0 : Nat) (l1 : Int32) (l2 : Int32) (w : PW), EE Γ MBytes_appendNumber 0 (lv_args 0 [.ref l0, .int l1, .int l2]) [] w (fBytes_appendNumber l0 l1 l2 w) := by
  intro l0 l1 l2 w
  unfold fBytes_appendNumber
  show EE Γ MBytes_appendNumber 0 [(0, .ref l0), (1, .int l1), (2, .int l2)] [] w _
  refine ee_bipush (v := (8 : Int32)) dBytes_appendNumber_0 (by decide) ?_
  refine ee_iload_n 2 dBytes_appendNumber_2 rfl ?_
  refine ee_iconst (v := (1 : Int32)) dBytes_appendNumber_3 (by decide) ?_
  refine ee_isub dBytes_appendNumber_4 ?_
  refine ee_imul dBytes_appendNumber_5 ?_
  refine ee_letI (fun l3_6 _ => ?_)
  refine ee_istore_n (lv2 := [(3, .int l3_6), (0, .ref l0), (1, .int l1), (2, .int l2)]) dBytes_appendNumber_6 (Nat.le_of_ble_eq_true rfl) rfl ?_
  refine ee_pick [1, 2, 0] rfl ?_
  exact t_fBytes_appendNumber_7 FUEL _ _ _ w
def fBytes_get (l0 : Nat) (l1 : Int32) (w : PW) : PX := if l1 < 0 then (some (.inl (some (.int (-1 : Int32))), w)) else ((p_getI w l0 2 2).bind fun v6 => if v6 ≤ l1 then (some (.inl (some (.int (-1 : Int32))), w)) else ((p_getR w l0 2 1).bind fun v13 => (p_ald w v13 1 l1).bind fun v17 => some (.inl (some (.int (v17 &&& (255 : Int32)))), w)))
set_option maxRecDepth 20000 in
set_option maxHeartbeats 2000000 in
theorem t_fBytes_get {Γ : PG} : ∀ (l0 : Nat) (l1 : Int32) (w : PW), EE Γ MBytes_get 0 (lv_args 0 [.ref l0, .int l1]) [] w (fBytes_get l0 l1 w) := by
  intro l0 l1 w
  unfold fBytes_get
  show EE Γ MBytes_get 0 [(0, .ref l0), (1, .int l1)] [] w _
  refine ee_iload_n 1 dBytes_get_0 rfl ?_
  refine ee_if_lt (tgt := 25) dBytes_get_1 (by decide) (fun h1 => ?_) (fun h1 => ?_)
  · refine ee_iconst (v := (-1 : Int32)) dBytes_get_25 (by decide) ?_
    exact ee_iret rfl dBytes_get_26
  · refine ee_iload_n 1 dBytes_get_4 rfl ?_
    refine ee_aload_n 0 dBytes_get_5 rfl ?_
    refine ee_getI dBytes_get_6 lfBytes_15 (fun v6 _ => ?_)
    refine ee_icmp_ge (tgt := 25) dBytes_get_9 (by decide) (fun h9 => ?_) (fun h9 => ?_)
    · refine ee_iconst (v := (-1 : Int32)) dBytes_get_25 (by decide) ?_
      exact ee_iret rfl dBytes_get_26
    · refine ee_aload_n 0 dBytes_get_12 rfl ?_
      refine ee_getR dBytes_get_13 lfBytes_11 (fun v13 _ => ?_)
      refine ee_iload_n 1 dBytes_get_16 rfl ?_
      refine ee_bald (t := 1) dBytes_get_17 rfl (fun v17 _ => ?_)
      refine ee_sipush (v := (255 : Int32)) dBytes_get_18 (by decide) ?_
      refine ee_iand dBytes_get_21 ?_
      refine ee_goto (tgt := 26) dBytes_get_22 (by decide) ?_
      exact ee_iret rfl dBytes_get_26
def fBytes_put (l0 : Nat) (l1 : Int32) (l2 : Int32) (w : PW) : PX := if l1 < 0 then (some (.inl none, w)) else ((p_getI w l0 2 2).bind fun v6 => if v6 ≤ l1 then (some (.inl none, w)) else ((p_getR w l0 2 1).bind fun v13 => (p_ast w v13 1 l1 (vp_nar .byte (p_i2b l2))).bind fun w19 => some (.inl none, w19)))
set_option maxRecDepth 20000 in
set_option maxHeartbeats 2000000 in
theorem t_fBytes_put {Γ : PG} : ∀ (l0 : Nat) (l1 : Int32) (l2 : Int32) (w : PW), EE Γ MBytes_put 0 (lv_args 0 [.ref l0, .int l1, .int l2]) [] w (fBytes_put l0 l1 l2 w) := by
  intro l0 l1 l2 w
  unfold fBytes_put
  show EE Γ MBytes_put 0 [(0, .ref l0), (1, .int l1), (2, .int l2)] [] w _
  refine ee_iload_n 1 dBytes_put_0 rfl ?_
  refine ee_if_lt (tgt := 20) dBytes_put_1 (by decide) (fun h1 => ?_) (fun h1 => ?_)
  · exact ee_vret rfl dBytes_put_20
  · refine ee_iload_n 1 dBytes_put_4 rfl ?_
    refine ee_aload_n 0 dBytes_put_5 rfl ?_
    refine ee_getI dBytes_put_6 lfBytes_15 (fun v6 _ => ?_)
    refine ee_icmp_ge (tgt := 20) dBytes_put_9 (by decide) (fun h9 => ?_) (fun h9 => ?_)
    · exact ee_vret rfl dBytes_put_20
    · refine ee_aload_n 0 dBytes_put_12 rfl ?_
      refine ee_getR dBytes_put_13 lfBytes_11 (fun v13 _ => ?_)
      refine ee_iload_n 1 dBytes_put_16 rfl ?_
      refine ee_iload_n 2 dBytes_put_17 rfl ?_
      refine ee_i2b dBytes_put_18 ?_
      refine ee_bast (t := 1) dBytes_put_19 rfl (fun w19 _ => ?_)
      exact ee_vret rfl dBytes_put_20
def fBytes_putNumber4_2 : Nat → Nat → Int32 → Int32 → Int32 → PW → PX
  | 0, _, _, _, _, _ => none
  | n9 + 1, l0, l1, l2, l3, w => if (4 : Int32) ≤ l3 then (some (.inl none, w)) else ((p_obj w l0 2).bind fun _ => p_call (fBytes_put l0 (l1 + l3) ((p_ushr l2 ((24 : Int32) - ((8 : Int32) * l3))) &&& (255 : Int32)) w) <| p_kV fun w24 => p_let (l3 + (1 : Int32)) fun (l3_27 : Int32) => (fBytes_putNumber4_2 n9) l0 l1 l2 l3_27 w24)
set_option maxRecDepth 20000 in
set_option maxHeartbeats 2000000 in
theorem t_fBytes_putNumber4_2 {Γ : PG} : ∀ (n9 : Nat) (l0 : Nat) (l1 : Int32) (l2 : Int32) (l3 : Int32) (w : PW), EE Γ MBytes_putNumber4 2 [(0, .ref l0), (1, .int l1), (2, .int l2), (3, .int l3)] [] w (fBytes_putNumber4_2 n9 l0 l1 l2 l3 w) := by
  intro n9
  induction n9 with
  | zero => intro l0 l1 l2 l3 w; exact ee_none
  | succ n9 ih =>
    intro l0 l1 l2 l3 w
    unfold fBytes_putNumber4_2
    refine ee_iload_n 3 dBytes_putNumber4_2 rfl ?_
    refine ee_iconst (v := (4 : Int32)) dBytes_putNumber4_3 (by decide) ?_
    refine ee_icmp_ge (tgt := 33) dBytes_putNumber4_4 (by decide) (fun h4 => ?_) (fun h4 => ?_)
    · exact ee_vret rfl dBytes_putNumber4_33
    · refine ee_aload_n 0 dBytes_putNumber4_7 rfl ?_
      refine ee_iload_n 1 dBytes_putNumber4_8 rfl ?_
      refine ee_iload_n 3 dBytes_putNumber4_9 rfl ?_
      refine ee_iadd dBytes_putNumber4_10 ?_
      refine ee_iload_n 2 dBytes_putNumber4_11 rfl ?_
      refine ee_bipush (v := (24 : Int32)) dBytes_putNumber4_12 (by decide) ?_
      refine ee_bipush (v := (8 : Int32)) dBytes_putNumber4_14 (by decide) ?_
      refine ee_iload_n 3 dBytes_putNumber4_16 rfl ?_
      refine ee_imul dBytes_putNumber4_17 ?_
      refine ee_isub dBytes_putNumber4_18 ?_
      refine ee_iushr dBytes_putNumber4_19 ?_
      refine ee_sipush (v := (255 : Int32)) dBytes_putNumber4_20 (by decide) ?_
      refine ee_iand dBytes_putNumber4_23 ?_
      refine ee_bind (fun _ ho24 => ?_)
      refine ee_callV (as := [.int (l1 + l3), .int ((p_ushr l2 ((24 : Int32) - ((8 : Int32) * l3))) &&& (255 : Int32))]) (st := []) dBytes_putNumber4_24 (t_fBytes_put l0 (l1 + l3) ((p_ushr l2 ((24 : Int32) - ((8 : Int32) * l3))) &&& (255 : Int32)) w) my_fBytes_put.1 (Nat.le_of_ble_eq_true rfl) my_fBytes_put.2 rfl cf_2.1 rfl (p_obj_eq.mp ho24) gw_405 gw_406 gw_407 ⟨Nat.le_of_ble_eq_true rfl, Nat.le_of_ble_eq_true rfl⟩ (Nat.le_of_ble_eq_true rfl) (fun rv24 w24 _ => ?_)
      refine ee_kV ?_
      refine ee_iinc 3 dBytes_putNumber4_27 rfl (e := (1 : Int32)) (by decide) (Nat.le_of_ble_eq_true rfl) (fun l3_27 _ => ?_)
      refine ee_lv (lv2 := [(3, .int l3_27), (0, .ref l0), (1, .int l1), (2, .int l2)]) rfl ?_
      refine ee_goto (tgt := 2) dBytes_putNumber4_30 (by decide) ?_
      refine ee_pick [1, 2, 3, 0] rfl ?_
      exact ih _ _ _ _ w24
def fBytes_putNumber4 (l0 : Nat) (l1 : Int32) (l2 : Int32) (w : PW) : PX := fBytes_putNumber4_2 FUEL l0 l1 l2 (0 : Int32) w
set_option maxRecDepth 20000 in
set_option maxHeartbeats 2000000 in
theorem t_fBytes_putNumber4 {Γ : PG} : ∀ (l0 : Nat) (l1 : Int32) (l2 : Int32) (w : PW), EE Γ MBytes_putNumber4 0 (lv_args 0 [.ref l0, .int l1, .int l2]) [] w (fBytes_putNumber4 l0 l1 l2 w) := by
  intro l0 l1 l2 w
  unfold fBytes_putNumber4
  show EE Γ MBytes_putNumber4 0 [(0, .ref l0), (1, .int l1), (2, .int l2)] [] w _
  refine ee_iconst (v := (0 : Int32)) dBytes_putNumber4_0 (by decide) ?_
  refine ee_istore_n (lv2 := [(3, .int (0 : Int32)), (0, .ref l0), (1, .int l1), (2, .int l2)]) dBytes_putNumber4_1 (Nat.le_of_ble_eq_true rfl) rfl ?_
  refine ee_pick [1, 2, 3, 0] rfl ?_
  exact t_fBytes_putNumber4_2 FUEL _ _ _ _ w
def fBytes_number_5 : Nat → Nat → Int32 → Int32 → Int64 → Int32 → PW → PX
  | 0, _, _, _, _, _, _ => none
  | n9 + 1, l0, l1, l2, l3, l5, w => if l2 ≤ l5 then (some (.inl (some (.long l3)), w)) else ((p_obj w l0 2).bind fun _ => p_call (fBytes_get l0 (l1 + l5) w) <| p_kI fun v22 w22 => p_let (((l3 * (256 : Int64)) + (Int32.toInt64 (p_max (0 : Int32) v22)))) fun (l3_30 : Int64) => p_let (l5 + (1 : Int32)) fun (l5_31 : Int32) => (fBytes_number_5 n9) l0 l1 l2 l3_30 l5_31 w22)
set_option maxRecDepth 20000 in
set_option maxHeartbeats 2000000 in
theorem t_fBytes_number_5 {Γ : PG} : ∀ (n9 : Nat) (l0 : Nat) (l1 : Int32) (l2 : Int32) (l3 : Int64) (l5 : Int32) (w : PW), EE Γ MBytes_number 5 [(0, .ref l0), (1, .int l1), (2, .int l2), (3, .long l3), (5, .int l5)] [] w (fBytes_number_5 n9 l0 l1 l2 l3 l5 w) := by
  intro n9
  induction n9 with
  | zero => intro l0 l1 l2 l3 l5 w; exact ee_none
  | succ n9 ih =>
    intro l0 l1 l2 l3 l5 w
    unfold fBytes_number_5
    refine ee_iload 4 dBytes_number_5 rfl ?_
    refine ee_iload_n 2 dBytes_number_7 rfl ?_
    refine ee_icmp_ge (tgt := 37) dBytes_number_8 (by decide) (fun h8 => ?_) (fun h8 => ?_)
    · refine ee_lload_n 3 dBytes_number_37 rfl ?_
      exact ee_lret rfl dBytes_number_38
    · refine ee_lload_n 3 dBytes_number_11 rfl ?_
      refine ee_ldc2 (v := (256 : Int64)) dBytes_number_12 gw_541 ?_
      refine ee_lmul dBytes_number_15 ?_
      refine ee_iconst (v := (0 : Int32)) dBytes_number_16 (by decide) ?_
      refine ee_aload_n 0 dBytes_number_17 rfl ?_
      refine ee_iload_n 1 dBytes_number_18 rfl ?_
      refine ee_iload 4 dBytes_number_19 rfl ?_
      refine ee_iadd dBytes_number_21 ?_
      refine ee_bind (fun _ ho22 => ?_)
      refine ee_callV (as := [.int (l1 + l5)]) (st := [.int (0 : Int32), .long (l3 * (256 : Int64))]) dBytes_number_22 (t_fBytes_get l0 (l1 + l5) w) my_fBytes_get.1 (Nat.le_of_ble_eq_true rfl) my_fBytes_get.2 rfl cf_2.1 rfl (p_obj_eq.mp ho22) gw_542 gw_459 gw_460 ⟨Nat.le_of_ble_eq_true rfl, Nat.le_of_ble_eq_true rfl⟩ (Nat.le_of_ble_eq_true rfl) (fun rv22 w22 _ => ?_)
      refine ee_kI (fun v22 => ?_)
      refine ee_mmax dBytes_number_25 gw_543 gw_mmaxs gw_mi gw_mmaxc ⟨Nat.le_of_ble_eq_true rfl, Nat.le_of_ble_eq_true rfl⟩ ?_
      refine ee_i2l dBytes_number_28 ?_
      refine ee_ladd dBytes_number_29 ?_
      refine ee_letJ (fun l3_30 _ => ?_)
      refine ee_lstore_n (lv2 := [(3, .long l3_30), (0, .ref l0), (1, .int l1), (2, .int l2), (5, .int l5)]) dBytes_number_30 (Nat.le_of_ble_eq_true rfl) rfl ?_
      refine ee_iinc 4 dBytes_number_31 rfl (e := (1 : Int32)) (by decide) (Nat.le_of_ble_eq_true rfl) (fun l5_31 _ => ?_)
      refine ee_lv (lv2 := [(5, .int l5_31), (3, .long l3_30), (0, .ref l0), (1, .int l1), (2, .int l2)]) rfl ?_
      refine ee_goto (tgt := 5) dBytes_number_34 (by decide) ?_
      refine ee_pick [2, 3, 4, 1, 0] rfl ?_
      exact ih _ _ _ _ _ w22
def fBytes_number (l0 : Nat) (l1 : Int32) (l2 : Int32) (w : PW) : PX := fBytes_number_5 FUEL l0 l1 l2 (0 : Int64) (0 : Int32) w
set_option maxRecDepth 20000 in
set_option maxHeartbeats 2000000 in
theorem t_fBytes_number {Γ : PG} : ∀ (l0 : Nat) (l1 : Int32) (l2 : Int32) (w : PW), EE Γ MBytes_number 0 (lv_args 0 [.ref l0, .int l1, .int l2]) [] w (fBytes_number l0 l1 l2 w) := by
  intro l0 l1 l2 w
  unfold fBytes_number
  show EE Γ MBytes_number 0 [(0, .ref l0), (1, .int l1), (2, .int l2)] [] w _
  refine ee_lconst (v := (0 : Int64)) dBytes_number_0 (by decide) ?_
  refine ee_lstore_n (lv2 := [(3, .long (0 : Int64)), (0, .ref l0), (1, .int l1), (2, .int l2)]) dBytes_number_1 (Nat.le_of_ble_eq_true rfl) rfl ?_
  refine ee_iconst (v := (0 : Int32)) dBytes_number_2 (by decide) ?_
  refine ee_istore (lv2 := [(5, .int (0 : Int32)), (3, .long (0 : Int64)), (0, .ref l0), (1, .int l1), (2, .int l2)]) dBytes_number_3 (Nat.le_of_ble_eq_true rfl) rfl ?_
  refine ee_pick [2, 3, 4, 1, 0] rfl ?_
  exact t_fBytes_number_5 FUEL _ _ _ _ _ w
def fBytes_copy_24 (l0 : Nat) (l1 : Nat) (w : PW) : PX := (p_getR w l1 2 1).bind fun v25 => (p_getR w l0 2 1).bind fun v30 => (p_getI w l1 2 2).bind fun v35 => (p_copy w 1 .byte v25 (0 : Int32) v30 (0 : Int32) v35).bind fun w38 => (p_getI w38 l1 2 2).bind fun v43 => (p_put w38 l0 2 2 (.int v43)).bind fun w46 => some (.inl none, w46)
set_option maxRecDepth 20000 in
set_option maxHeartbeats 2000000 in
theorem t_fBytes_copy_24 {Γ : PG} : ∀ (l0 : Nat) (l1 : Nat) (w : PW), EE Γ MBytes_copy 24 [(0, .ref l0), (1, .ref l1)] [] w (fBytes_copy_24 l0 l1 w) := by
  intro l0 l1 w
  unfold fBytes_copy_24
  refine ee_aload_n 1 dBytes_copy_24 rfl ?_
  refine ee_getR dBytes_copy_25 lfBytes_11 (fun v25 _ => ?_)
  refine ee_iconst (v := (0 : Int32)) dBytes_copy_28 (by decide) ?_
  refine ee_aload_n 0 dBytes_copy_29 rfl ?_
  refine ee_getR dBytes_copy_30 lfBytes_11 (fun v30 _ => ?_)
  refine ee_iconst (v := (0 : Int32)) dBytes_copy_33 (by decide) ?_
  refine ee_aload_n 1 dBytes_copy_34 rfl ?_
  refine ee_getI dBytes_copy_35 lfBytes_15 (fun v35 _ => ?_)
  refine ee_copy (t := 1) (ty := .byte) dBytes_copy_38 rfl rfl gw_527 gw_395 gw_394 gw_78 ⟨Nat.le_of_ble_eq_true rfl, by decide⟩ (fun w38 _ => ?_)
  refine ee_aload_n 0 dBytes_copy_41 rfl ?_
  refine ee_aload_n 1 dBytes_copy_42 rfl ?_
  refine ee_getI dBytes_copy_43 lfBytes_15 (fun v43 _ => ?_)
  refine ee_put dBytes_copy_46 lpBytes_15 (ee_nI _) (fun w46 _ => ?_)
  exact ee_vret rfl dBytes_copy_49
def fBytes_copy (l0 : Nat) (l1 : Nat) (w : PW) : PX := (p_getR w l0 2 1).bind fun v1 => (p_len w v1).bind fun v4 => (p_getR w l1 2 1).bind fun v6 => (p_len w v6).bind fun v9 => if v9 ≤ v4 then (fBytes_copy_24 l0 l1 w) else ((p_getR w l1 2 1).bind fun v15 => (p_len w v15).bind fun v18 => p_newA w 1 1 v18 fun v19 w19 => (p_put w19 l0 2 1 (.ref v19)).bind fun w21 => fBytes_copy_24 l0 l1 w21)
set_option maxRecDepth 20000 in
set_option maxHeartbeats 2000000 in
theorem t_fBytes_copy {Γ : PG} : ∀ (l0 : Nat) (l1 : Nat) (w : PW), EE Γ MBytes_copy 0 (lv_args 0 [.ref l0, .ref l1]) [] w (fBytes_copy l0 l1 w) := by
  intro l0 l1 w
  unfold fBytes_copy
  show EE Γ MBytes_copy 0 [(0, .ref l0), (1, .ref l1)] [] w _
  refine ee_aload_n 0 dBytes_copy_0 rfl ?_
  refine ee_getR dBytes_copy_1 lfBytes_11 (fun v1 _ => ?_)
  refine ee_alen dBytes_copy_4 (fun v4 _ => ?_)
  refine ee_aload_n 1 dBytes_copy_5 rfl ?_
  refine ee_getR dBytes_copy_6 lfBytes_11 (fun v6 _ => ?_)
  refine ee_alen dBytes_copy_9 (fun v9 _ => ?_)
  refine ee_icmp_ge (tgt := 24) dBytes_copy_10 (by decide) (fun h10 => ?_) (fun h10 => ?_)
  · exact t_fBytes_copy_24 _ _ w
  · refine ee_aload_n 0 dBytes_copy_13 rfl ?_
    refine ee_aload_n 1 dBytes_copy_14 rfl ?_
    refine ee_getR dBytes_copy_15 lfBytes_11 (fun v15 _ => ?_)
    refine ee_alen dBytes_copy_18 (fun v18 _ => ?_)
    refine ee_newB dBytes_copy_19 (fun v19 w19 _ _ _ => ?_)
    refine ee_put dBytes_copy_21 lpBytes_11 (ee_nRA _ _) (fun w21 _ => ?_)
    exact t_fBytes_copy_24 _ _ w21
def fNumbers_init (l0 : Nat) (w : PW) : PX := p_newA w 0 4 (8 : Int32) fun v7 w7 => (p_put w7 l0 5 0 (.ref v7)).bind fun w9 => (p_put w9 l0 5 1 (.int (0 : Int32))).bind fun w14 => some (.inl none, w14)
set_option maxRecDepth 20000 in
set_option maxHeartbeats 2000000 in
theorem t_fNumbers_init {Γ : PG} : ∀ (l0 : Nat) (w : PW), EE Γ MNumbers_init 0 (lv_args 0 [.ref l0]) [] w (fNumbers_init l0 w) := by
  intro l0 w
  unfold fNumbers_init
  show EE Γ MNumbers_init 0 [(0, .ref l0)] [] w _
  refine ee_aload_n 0 dNumbers_init_0 rfl ?_
  refine ee_objInit dNumbers_init_1 gw_196 gw_obji gw_objc ⟨Nat.le_of_ble_eq_true rfl, Nat.le_of_ble_eq_true rfl⟩ ?_
  refine ee_aload_n 0 dNumbers_init_4 rfl ?_
  refine ee_bipush (v := (8 : Int32)) dNumbers_init_5 (by decide) ?_
  refine ee_newI dNumbers_init_7 (fun v7 w7 _ _ _ => ?_)
  refine ee_put dNumbers_init_9 lpiNumbers_11 (ee_nRA _ _) (fun w9 _ => ?_)
  refine ee_aload_n 0 dNumbers_init_12 rfl ?_
  refine ee_iconst (v := (0 : Int32)) dNumbers_init_13 (by decide) ?_
  refine ee_put dNumbers_init_14 lpiNumbers_15 (ee_nI _) (fun w14 _ => ?_)
  exact ee_vret rfl dNumbers_init_17
def fAR_copyOf4 (l0 : Nat) (l1 : Int32) (w : PW) : PX := (p_len w l0).bind fun v2 => if ¬ l1 = v2 then (p_newA w 0 4 l1 fun v15 w15 => (p_len w15 l0).bind fun v23 => (p_copy w15 0 .int l0 (0 : Int32) v15 (0 : Int32) (p_min v23 l1)).bind fun w28 => some (.inl (some (.ref v15)), w28)) else (none)
set_option maxRecDepth 20000 in
set_option maxHeartbeats 2000000 in
theorem t_fAR_copyOf4 {Γ : PG} : ∀ (l0 : Nat) (l1 : Int32) (w : PW), EE Γ MAR_copyOf4 0 (lv_args 0 [.ref l0, .int l1]) [] w (fAR_copyOf4 l0 l1 w) := by
  intro l0 l1 w
  unfold fAR_copyOf4
  show EE Γ MAR_copyOf4 0 [(0, .ref l0), (1, .int l1)] [] w _
  refine ee_iload_n 1 dAR_copyOf4_0 rfl ?_
  refine ee_aload_n 0 dAR_copyOf4_1 rfl ?_
  refine ee_alen dAR_copyOf4_2 (fun v2 _ => ?_)
  refine ee_icmp_ne (tgt := 14) dAR_copyOf4_3 (by decide) (fun h3 => ?_) (fun h3 => ?_)
  · refine ee_iload_n 1 dAR_copyOf4_14 rfl ?_
    refine ee_newI dAR_copyOf4_15 (fun v15 w15 _ _ _ => ?_)
    refine ee_astore_n (lv2 := [(2, .ref v15), (0, .ref l0), (1, .int l1)]) dAR_copyOf4_17 (Nat.le_of_ble_eq_true rfl) rfl ?_
    refine ee_aload_n 1 dAR_copyOf4_18 rfl ?_
    refine ee_iconst (v := (0 : Int32)) dAR_copyOf4_19 (by decide) ?_
    refine ee_aload_n 0 dAR_copyOf4_20 rfl ?_
    refine ee_iconst (v := (0 : Int32)) dAR_copyOf4_21 (by decide) ?_
    refine ee_aload_n 1 dAR_copyOf4_22 rfl ?_
    refine ee_alen dAR_copyOf4_23 (fun v23 _ => ?_)
    refine ee_iload_n 2 dAR_copyOf4_24 rfl ?_
    refine ee_mmin dAR_copyOf4_25 gw_392 gw_mmins gw_mi gw_mminc ⟨Nat.le_of_ble_eq_true rfl, Nat.le_of_ble_eq_true rfl⟩ ?_
    refine ee_copy (t := 0) (ty := .int) dAR_copyOf4_28 rfl rfl gw_393 gw_395 gw_394 gw_78 ⟨Nat.le_of_ble_eq_true rfl, by decide⟩ (fun w28 _ => ?_)
    refine ee_aload_n 0 dAR_copyOf4_31 rfl ?_
    exact ee_aret rfl (Or.inr ⟨_, rfl⟩) dAR_copyOf4_32
  · refine ee_aload_n 0 dAR_copyOf4_6 rfl ?_
    exact ee_none
def fNumbers_append_30 (l0 : Nat) (l1 : Int32) (w : PW) : PX := (p_getR w l0 5 0).bind fun v31 => (p_getI w l0 5 1).bind fun v35 => (p_ast w v31 0 v35 l1).bind fun w39 => (p_getI w39 l0 5 1).bind fun v42 => (p_put w39 l0 5 1 (.int (v42 + (1 : Int32)))).bind fun w47 => some (.inl none, w47)
set_option maxRecDepth 20000 in
set_option maxHeartbeats 2000000 in
theorem t_fNumbers_append_30 {Γ : PG} : ∀ (l0 : Nat) (l1 : Int32) (w : PW), EE Γ MNumbers_append 30 [(0, .ref l0), (1, .int l1)] [] w (fNumbers_append_30 l0 l1 w) := by
  intro l0 l1 w
  unfold fNumbers_append_30
  refine ee_aload_n 0 dNumbers_append_30 rfl ?_
  refine ee_getR dNumbers_append_31 lfNumbers_11 (fun v31 _ => ?_)
  refine ee_aload_n 0 dNumbers_append_34 rfl ?_
  refine ee_getI dNumbers_append_35 lfNumbers_15 (fun v35 _ => ?_)
  refine ee_iload_n 1 dNumbers_append_38 rfl ?_
  refine ee_iast (t := 0) dNumbers_append_39 rfl (fun w39 _ => ?_)
  refine ee_aload_n 0 dNumbers_append_40 rfl ?_
  refine ee_dup dNumbers_append_41 rfl ?_
  refine ee_getI dNumbers_append_42 lfNumbers_15 (fun v42 _ => ?_)
  refine ee_iconst (v := (1 : Int32)) dNumbers_append_45 (by decide) ?_
  refine ee_iadd dNumbers_append_46 ?_
  refine ee_put dNumbers_append_47 lpNumbers_15 (ee_nI _) (fun w47 _ => ?_)
  exact ee_vret rfl dNumbers_append_50
def fNumbers_append (l0 : Nat) (l1 : Int32) (w : PW) : PX := (p_getI w l0 5 1).bind fun v1 => (p_getR w l0 5 0).bind fun v5 => (p_len w v5).bind fun v8 => if v1 < v8 then (fNumbers_append_30 l0 l1 w) else ((p_getR w l0 5 0).bind fun v14 => (p_getR w l0 5 0).bind fun v19 => (p_len w v19).bind fun v22 => p_call (fAR_copyOf4 v14 ((2 : Int32) * v22) w) <| p_kR fun v24 w24 => (p_put w24 l0 5 0 (.ref v24)).bind fun w27 => fNumbers_append_30 l0 l1 w27)
set_option maxRecDepth 20000 in
set_option maxHeartbeats 2000000 in
theorem t_fNumbers_append {Γ : PG} : ∀ (l0 : Nat) (l1 : Int32) (w : PW), EE Γ MNumbers_append 0 (lv_args 0 [.ref l0, .int l1]) [] w (fNumbers_append l0 l1 w) := by
  intro l0 l1 w
  unfold fNumbers_append
  show EE Γ MNumbers_append 0 [(0, .ref l0), (1, .int l1)] [] w _
  refine ee_aload_n 0 dNumbers_append_0 rfl ?_
  refine ee_getI dNumbers_append_1 lfNumbers_15 (fun v1 _ => ?_)
  refine ee_aload_n 0 dNumbers_append_4 rfl ?_
  refine ee_getR dNumbers_append_5 lfNumbers_11 (fun v5 _ => ?_)
  refine ee_alen dNumbers_append_8 (fun v8 _ => ?_)
  refine ee_icmp_lt (tgt := 30) dNumbers_append_9 (by decide) (fun h9 => ?_) (fun h9 => ?_)
  · exact t_fNumbers_append_30 _ _ w
  · refine ee_aload_n 0 dNumbers_append_12 rfl ?_
    refine ee_aload_n 0 dNumbers_append_13 rfl ?_
    refine ee_getR dNumbers_append_14 lfNumbers_11 (fun v14 _ => ?_)
    refine ee_iconst (v := (2 : Int32)) dNumbers_append_17 (by decide) ?_
    refine ee_aload_n 0 dNumbers_append_18 rfl ?_
    refine ee_getR dNumbers_append_19 lfNumbers_11 (fun v19 _ => ?_)
    refine ee_alen dNumbers_append_22 (fun v22 _ => ?_)
    refine ee_imul dNumbers_append_23 ?_
    refine ee_callS (as := [.ref v14, .int ((2 : Int32) * v22)]) (st := [.ref l0]) dNumbers_append_24 (t_fAR_copyOf4 v14 ((2 : Int32) * v22) w) my_fAR_copyOf4.1 (Nat.le_of_ble_eq_true rfl) my_fAR_copyOf4.2 rfl gw_576 gw_577 ⟨Nat.le_of_ble_eq_true rfl, Nat.le_of_ble_eq_true rfl⟩ (Nat.le_of_ble_eq_true rfl) (fun rv24 w24 _ => ?_)
    refine ee_kR (fun v24 => ?_)
    refine ee_put dNumbers_append_27 lpNumbers_11 (ee_nRA _ _) (fun w27 _ => ?_)
    exact t_fNumbers_append_30 _ _ w27
def fNumbers_get (l0 : Nat) (l1 : Int32) (w : PW) : PX := if l1 < 0 then (some (.inl (some (.int (-1 : Int32))), w)) else ((p_getI w l0 5 1).bind fun v6 => if v6 ≤ l1 then (some (.inl (some (.int (-1 : Int32))), w)) else ((p_getR w l0 5 0).bind fun v13 => (p_ald w v13 0 l1).bind fun v17 => some (.inl (some (.int v17)), w)))
set_option maxRecDepth 20000 in
set_option maxHeartbeats 2000000 in
theorem t_fNumbers_get {Γ : PG} : ∀ (l0 : Nat) (l1 : Int32) (w : PW), EE Γ MNumbers_get 0 (lv_args 0 [.ref l0, .int l1]) [] w (fNumbers_get l0 l1 w) := by
  intro l0 l1 w
  unfold fNumbers_get
  show EE Γ MNumbers_get 0 [(0, .ref l0), (1, .int l1)] [] w _
  refine ee_iload_n 1 dNumbers_get_0 rfl ?_
  refine ee_if_lt (tgt := 21) dNumbers_get_1 (by decide) (fun h1 => ?_) (fun h1 => ?_)
  · refine ee_iconst (v := (-1 : Int32)) dNumbers_get_21 (by decide) ?_
    exact ee_iret rfl dNumbers_get_22
  · refine ee_iload_n 1 dNumbers_get_4 rfl ?_
    refine ee_aload_n 0 dNumbers_get_5 rfl ?_
    refine ee_getI dNumbers_get_6 lfNumbers_15 (fun v6 _ => ?_)
    refine ee_icmp_ge (tgt := 21) dNumbers_get_9 (by decide) (fun h9 => ?_) (fun h9 => ?_)
    · refine ee_iconst (v := (-1 : Int32)) dNumbers_get_21 (by decide) ?_
      exact ee_iret rfl dNumbers_get_22
    · refine ee_aload_n 0 dNumbers_get_12 rfl ?_
      refine ee_getR dNumbers_get_13 lfNumbers_11 (fun v13 _ => ?_)
      refine ee_iload_n 1 dNumbers_get_16 rfl ?_
      refine ee_iald (t := 0) dNumbers_get_17 rfl (fun v17 _ => ?_)
      refine ee_goto (tgt := 22) dNumbers_get_18 (by decide) ?_
      exact ee_iret rfl dNumbers_get_22
def fTilePart_init (l0 : Nat) (l1 : Int32) (l2 : Int32) (w : PW) : PX := p_newA w 0 4 (20 : Int32) fun v7 w7 => (p_put w7 l0 8 2 (.ref v7)).bind fun w9 => p_newO w9 2 3 [.int 0, .null, .int 0] fun v13 w13 => p_call (fBytes_init v13 (300 : Int32) w13) <| p_kV fun w20 => (p_put w20 l0 8 3 (.ref v13)).bind fun w23 => (p_put w23 l0 8 4 (.int (0 : Int32))).bind fun w28 => (p_put w28 l0 8 0 (.int l1)).bind fun w33 => (p_put w33 l0 8 1 (.int l2)).bind fun w38 => some (.inl none, w38)
set_option maxRecDepth 20000 in
set_option maxHeartbeats 2000000 in
theorem t_fTilePart_init {Γ : PG} : ∀ (l0 : Nat) (l1 : Int32) (l2 : Int32) (w : PW), EE Γ MTilePart_init 0 (lv_args 0 [.ref l0, .int l1, .int l2]) [] w (fTilePart_init l0 l1 l2 w) := by
  intro l0 l1 l2 w
  unfold fTilePart_init
  show EE Γ MTilePart_init 0 [(0, .ref l0), (1, .int l1), (2, .int l2)] [] w _
  refine ee_aload_n 0 dTilePart_init_0 rfl ?_
  refine ee_objInit dTilePart_init_1 gw_913 gw_obji gw_objc ⟨Nat.le_of_ble_eq_true rfl, Nat.le_of_ble_eq_true rfl⟩ ?_
  refine ee_aload_n 0 dTilePart_init_4 rfl ?_
  refine ee_bipush (v := (20 : Int32)) dTilePart_init_5 (by decide) ?_
  refine ee_newI dTilePart_init_7 (fun v7 w7 _ _ _ => ?_)
  refine ee_put dTilePart_init_9 lpiTilePart_9 (ee_nRA _ _) (fun w9 _ => ?_)
  refine ee_aload_n 0 dTilePart_init_12 rfl ?_
  refine ee_new dTilePart_init_13 lnTilePart_15 (fun v13 w13 _ _ => ?_)
  refine ee_dup dTilePart_init_16 rfl ?_
  refine ee_sipush (v := (300 : Int32)) dTilePart_init_17 (by decide) ?_
  refine ee_callI (as := [.int (300 : Int32)]) (st := [.ref v13, .ref l0]) dTilePart_init_20 (t_fBytes_init v13 (300 : Int32) w13) my_fBytes_init.1 (Nat.le_of_ble_eq_true rfl) my_fBytes_init.2 rfl rfl rfl gw_915 gw_161 ⟨Nat.le_of_ble_eq_true rfl, Nat.le_of_ble_eq_true rfl⟩ (Nat.le_of_ble_eq_true rfl) (fun rv20 w20 _ => ?_)
  refine ee_kV ?_
  refine ee_put dTilePart_init_23 lpiTilePart_20 (ee_nR _ _) (fun w23 _ => ?_)
  refine ee_aload_n 0 dTilePart_init_26 rfl ?_
  refine ee_iconst (v := (0 : Int32)) dTilePart_init_27 (by decide) ?_
  refine ee_put dTilePart_init_28 lpiTilePart_24 (ee_nI _) (fun w28 _ => ?_)
  refine ee_aload_n 0 dTilePart_init_31 rfl ?_
  refine ee_iload_n 1 dTilePart_init_32 rfl ?_
  refine ee_put dTilePart_init_33 lpiTilePart_28 (ee_nI _) (fun w33 _ => ?_)
  refine ee_aload_n 0 dTilePart_init_36 rfl ?_
  refine ee_iload_n 2 dTilePart_init_37 rfl ?_
  refine ee_put dTilePart_init_38 lpiTilePart_31 (ee_nI _) (fun w38 _ => ?_)
  exact ee_vret rfl dTilePart_init_41
def fTilePart_grow (l0 : Nat) (l1 : Int32) (w : PW) : PX := (p_getI w l0 8 4).bind fun v1 => if v1 < (1 : Int32) then (p_retZ (0 : Int32) w) else ((p_getI w l0 8 4).bind fun v9 => if (20 : Int32) < v9 then (p_retZ (0 : Int32) w) else ((p_getR w l0 8 3).bind fun v18 => (p_obj w v18 2).bind fun _ => p_call (fBytes_append v18 l1 w) <| p_kI fun v22 w22 => if ¬ v22 = 0 then ((p_getR w22 l0 8 2).bind fun v31 => (p_getI w22 l0 8 4).bind fun v35 => (p_ald w22 v31 0 (v35 - (1 : Int32))).bind fun v41 => (p_ast w22 v31 0 (v35 - (1 : Int32)) (v41 + (1 : Int32))).bind fun w44 => p_retZ (1 : Int32) w44) else (p_retZ (0 : Int32) w22)))
set_option maxRecDepth 20000 in
set_option maxHeartbeats 2000000 in
theorem t_fTilePart_grow {Γ : PG} : ∀ (l0 : Nat) (l1 : Int32) (w : PW), EE Γ MTilePart_grow 0 (lv_args 0 [.ref l0, .int l1]) [] w (fTilePart_grow l0 l1 w) := by
  intro l0 l1 w
  unfold fTilePart_grow
  show EE Γ MTilePart_grow 0 [(0, .ref l0), (1, .int l1)] [] w _
  refine ee_aload_n 0 dTilePart_grow_0 rfl ?_
  refine ee_getI dTilePart_grow_1 lfTilePart_24 (fun v1 _ => ?_)
  refine ee_iconst (v := (1 : Int32)) dTilePart_grow_4 (by decide) ?_
  refine ee_icmp_lt (tgt := 28) dTilePart_grow_5 (by decide) (fun h5 => ?_) (fun h5 => ?_)
  · refine ee_iconst (v := (0 : Int32)) dTilePart_grow_28 (by decide) ?_
    exact ee_zret rfl dTilePart_grow_29
  · refine ee_aload_n 0 dTilePart_grow_8 rfl ?_
    refine ee_getI dTilePart_grow_9 lfTilePart_24 (fun v9 _ => ?_)
    refine ee_bipush (v := (20 : Int32)) dTilePart_grow_12 (by decide) ?_
    refine ee_icmp_gt (tgt := 28) dTilePart_grow_14 (by decide) (fun h14 => ?_) (fun h14 => ?_)
    · refine ee_iconst (v := (0 : Int32)) dTilePart_grow_28 (by decide) ?_
      exact ee_zret rfl dTilePart_grow_29
    · refine ee_aload_n 0 dTilePart_grow_17 rfl ?_
      refine ee_getR dTilePart_grow_18 lfTilePart_20 (fun v18 _ => ?_)
      refine ee_iload_n 1 dTilePart_grow_21 rfl ?_
      refine ee_bind (fun _ ho22 => ?_)
      refine ee_callV (as := [.int l1]) (st := []) dTilePart_grow_22 (t_fBytes_append v18 l1 w) my_fBytes_append.1 (Nat.le_of_ble_eq_true rfl) my_fBytes_append.2 rfl cf_2.1 rfl (p_obj_eq.mp ho22) gw_1020 gw_378 gw_379 ⟨Nat.le_of_ble_eq_true rfl, Nat.le_of_ble_eq_true rfl⟩ (Nat.le_of_ble_eq_true rfl) (fun rv22 w22 _ => ?_)
      refine ee_kI (fun v22 => ?_)
      refine ee_if_ne (tgt := 30) dTilePart_grow_25 (by decide) (fun h25 => ?_) (fun h25 => ?_)
      · refine ee_aload_n 0 dTilePart_grow_30 rfl ?_
        refine ee_getR dTilePart_grow_31 lfTilePart_9 (fun v31 _ => ?_)
        refine ee_aload_n 0 dTilePart_grow_34 rfl ?_
        refine ee_getI dTilePart_grow_35 lfTilePart_24 (fun v35 _ => ?_)
        refine ee_iconst (v := (1 : Int32)) dTilePart_grow_38 (by decide) ?_
        refine ee_isub dTilePart_grow_39 ?_
        refine ee_dup2 dTilePart_grow_40 rfl rfl ?_
        refine ee_iald (t := 0) dTilePart_grow_41 rfl (fun v41 _ => ?_)
        refine ee_iconst (v := (1 : Int32)) dTilePart_grow_42 (by decide) ?_
        refine ee_iadd dTilePart_grow_43 ?_
        refine ee_iast (t := 0) dTilePart_grow_44 rfl (fun w44 _ => ?_)
        refine ee_iconst (v := (1 : Int32)) dTilePart_grow_45 (by decide) ?_
        exact ee_zret rfl dTilePart_grow_46
      · refine ee_iconst (v := (0 : Int32)) dTilePart_grow_28 (by decide) ?_
        exact ee_zret rfl dTilePart_grow_29
def fMadeBox_init (l0 : Nat) (l1 : Int32) (l2 : Int32) (w : PW) : PX := p_newO w 2 3 [.int 0, .null, .int 0] fun v5 w5 => p_call (fBytes_init v5 (40 : Int32) w5) <| p_kV fun w11 => (p_put w11 l0 4 2 (.ref v5)).bind fun w14 => if ¬ (l1 = 0 ∨ l1 = 1) then none else (p_put w14 l0 4 0 (.int l1)).bind fun w19 => (p_put w19 l0 4 1 (.int l2)).bind fun w24 => some (.inl none, w24)
set_option maxRecDepth 20000 in
set_option maxHeartbeats 2000000 in
theorem t_fMadeBox_init {Γ : PG} : ∀ (l0 : Nat) (l1 : Int32) (l2 : Int32) (w : PW), EE Γ MMadeBox_init 0 (lv_args 0 [.ref l0, .int l1, .int l2]) [] w (fMadeBox_init l0 l1 l2 w) := by
  intro l0 l1 l2 w
  unfold fMadeBox_init
  show EE Γ MMadeBox_init 0 [(0, .ref l0), (1, .int l1), (2, .int l2)] [] w _
  refine ee_aload_n 0 dMadeBox_init_0 rfl ?_
  refine ee_objInit dMadeBox_init_1 gw_1047 gw_obji gw_objc ⟨Nat.le_of_ble_eq_true rfl, Nat.le_of_ble_eq_true rfl⟩ ?_
  refine ee_aload_n 0 dMadeBox_init_4 rfl ?_
  refine ee_new dMadeBox_init_5 lnMadeBox_9 (fun v5 w5 _ _ => ?_)
  refine ee_dup dMadeBox_init_8 rfl ?_
  refine ee_bipush (v := (40 : Int32)) dMadeBox_init_9 (by decide) ?_
  refine ee_callI (as := [.int (40 : Int32)]) (st := [.ref v5, .ref l0]) dMadeBox_init_11 (t_fBytes_init v5 (40 : Int32) w5) my_fBytes_init.1 (Nat.le_of_ble_eq_true rfl) my_fBytes_init.2 rfl rfl rfl gw_1049 gw_161 ⟨Nat.le_of_ble_eq_true rfl, Nat.le_of_ble_eq_true rfl⟩ (Nat.le_of_ble_eq_true rfl) (fun rv11 w11 _ => ?_)
  refine ee_kV ?_
  refine ee_put dMadeBox_init_14 lpiMadeBox_14 (ee_nR _ _) (fun w14 _ => ?_)
  refine ee_aload_n 0 dMadeBox_init_17 rfl ?_
  refine ee_iload_n 1 dMadeBox_init_18 rfl ?_
  refine ee_ite (fun _ => ee_none) (fun hz19 => ?_)
  refine ee_put dMadeBox_init_19 lpiMadeBox_20 (ee_nZ _ (Classical.byContradiction hz19)) (fun w19 _ => ?_)
  refine ee_aload_n 0 dMadeBox_init_22 rfl ?_
  refine ee_iload_n 2 dMadeBox_init_23 rfl ?_
  refine ee_put dMadeBox_init_24 lpiMadeBox_24 (ee_nI _) (fun w24 _ => ?_)
  exact ee_vret rfl dMadeBox_init_27
def fSettings_init (l0 : Nat) (w : PW) : PX := p_newA w 0 4 (3 : Int32) fun v6 w6 => (p_put w6 l0 7 0 (.ref v6)).bind fun w8 => p_newA w8 0 4 (4 : Int32) fun v13 w13 => (p_put w13 l0 7 1 (.ref v13)).bind fun w15 => p_newA w15 0 4 (875 : Int32) fun v22 w22 => (p_put w22 l0 7 2 (.ref v22)).bind fun w24 => p_newA w24 2 1 (125 : Int32) fun v30 w30 => (p_put w30 l0 7 3 (.ref v30)).bind fun w32 => p_newA w32 2 1 (125 : Int32) fun v38 w38 => (p_put w38 l0 7 4 (.ref v38)).bind fun w40 => (p_put w40 l0 7 5 (.int (1 : Int32))).bind fun w45 => (p_put w45 l0 7 6 (.int (1 : Int32))).bind fun w50 => some (.inl none, w50)
set_option maxRecDepth 20000 in
set_option maxHeartbeats 2000000 in
theorem t_fSettings_init {Γ : PG} : ∀ (l0 : Nat) (w : PW), EE Γ MSettings_init 0 (lv_args 0 [.ref l0]) [] w (fSettings_init l0 w) := by
  intro l0 w
  unfold fSettings_init
  show EE Γ MSettings_init 0 [(0, .ref l0)] [] w _
  refine ee_aload_n 0 dSettings_init_0 rfl ?_
  refine ee_objInit dSettings_init_1 gw_93 gw_obji gw_objc ⟨Nat.le_of_ble_eq_true rfl, Nat.le_of_ble_eq_true rfl⟩ ?_
  refine ee_aload_n 0 dSettings_init_4 rfl ?_
  refine ee_iconst (v := (3 : Int32)) dSettings_init_5 (by decide) ?_
  refine ee_newI dSettings_init_6 (fun v6 w6 _ _ _ => ?_)
  refine ee_put dSettings_init_8 lpiSettings_11 (ee_nRA _ _) (fun w8 _ => ?_)
  refine ee_aload_n 0 dSettings_init_11 rfl ?_
  refine ee_iconst (v := (4 : Int32)) dSettings_init_12 (by decide) ?_
  refine ee_newI dSettings_init_13 (fun v13 w13 _ _ _ => ?_)
  refine ee_put dSettings_init_15 lpiSettings_15 (ee_nRA _ _) (fun w15 _ => ?_)
  refine ee_aload_n 0 dSettings_init_18 rfl ?_
  refine ee_sipush (v := (875 : Int32)) dSettings_init_19 (by decide) ?_
  refine ee_newI dSettings_init_22 (fun v22 w22 _ _ _ => ?_)
  refine ee_put dSettings_init_24 lpiSettings_18 (ee_nRA _ _) (fun w24 _ => ?_)
  refine ee_aload_n 0 dSettings_init_27 rfl ?_
  refine ee_bipush (v := (125 : Int32)) dSettings_init_28 (by decide) ?_
  refine ee_newZ dSettings_init_30 (fun v30 w30 _ _ _ => ?_)
  refine ee_put dSettings_init_32 lpiSettings_21 (ee_nRA _ _) (fun w32 _ => ?_)
  refine ee_aload_n 0 dSettings_init_35 rfl ?_
  refine ee_bipush (v := (125 : Int32)) dSettings_init_36 (by decide) ?_
  refine ee_newZ dSettings_init_38 (fun v38 w38 _ _ _ => ?_)
  refine ee_put dSettings_init_40 lpiSettings_25 (ee_nRA _ _) (fun w40 _ => ?_)
  refine ee_aload_n 0 dSettings_init_43 rfl ?_
  refine ee_iconst (v := (1 : Int32)) dSettings_init_44 (by decide) ?_
  refine ee_put dSettings_init_45 lpiSettings_28 (ee_nI _) (fun w45 _ => ?_)
  refine ee_aload_n 0 dSettings_init_48 rfl ?_
  refine ee_iconst (v := (1 : Int32)) dSettings_init_49 (by decide) ?_
  refine ee_put dSettings_init_50 lpiSettings_32 (ee_nI _) (fun w50 _ => ?_)
  exact ee_vret rfl dSettings_init_53
def fSettings_forgetSegments_2 : Nat → Nat → Int32 → PW → PX
  | 0, _, _, _ => none
  | n9 + 1, l0, l1, w => if (125 : Int32) ≤ l1 then (some (.inl none, w)) else ((p_getR w l0 7 3).bind fun v9 => (p_ast w v9 2 l1 (vp_nar .boolean (0 : Int32))).bind fun w14 => (p_getR w14 l0 7 4).bind fun v16 => (p_ast w14 v16 2 l1 (vp_nar .boolean (0 : Int32))).bind fun w21 => p_let (l1 + (1 : Int32)) fun (l1_22 : Int32) => (fSettings_forgetSegments_2 n9) l0 l1_22 w21)
set_option maxRecDepth 20000 in
set_option maxHeartbeats 2000000 in
theorem t_fSettings_forgetSegments_2 {Γ : PG} : ∀ (n9 : Nat) (l0 : Nat) (l1 : Int32) (w : PW), EE Γ MSettings_forgetSegments 2 [(0, .ref l0), (1, .int l1)] [] w (fSettings_forgetSegments_2 n9 l0 l1 w) := by
  intro n9
  induction n9 with
  | zero => intro l0 l1 w; exact ee_none
  | succ n9 ih =>
    intro l0 l1 w
    unfold fSettings_forgetSegments_2
    refine ee_iload_n 1 dSettings_forgetSegments_2 rfl ?_
    refine ee_bipush (v := (125 : Int32)) dSettings_forgetSegments_3 (by decide) ?_
    refine ee_icmp_ge (tgt := 28) dSettings_forgetSegments_5 (by decide) (fun h5 => ?_) (fun h5 => ?_)
    · exact ee_vret rfl dSettings_forgetSegments_28
    · refine ee_aload_n 0 dSettings_forgetSegments_8 rfl ?_
      refine ee_getR dSettings_forgetSegments_9 lfSettings_21 (fun v9 _ => ?_)
      refine ee_iload_n 1 dSettings_forgetSegments_12 rfl ?_
      refine ee_iconst (v := (0 : Int32)) dSettings_forgetSegments_13 (by decide) ?_
      refine ee_zast (t := 2) dSettings_forgetSegments_14 rfl (fun w14 _ => ?_)
      refine ee_aload_n 0 dSettings_forgetSegments_15 rfl ?_
      refine ee_getR dSettings_forgetSegments_16 lfSettings_25 (fun v16 _ => ?_)
      refine ee_iload_n 1 dSettings_forgetSegments_19 rfl ?_
      refine ee_iconst (v := (0 : Int32)) dSettings_forgetSegments_20 (by decide) ?_
      refine ee_zast (t := 2) dSettings_forgetSegments_21 rfl (fun w21 _ => ?_)
      refine ee_iinc 1 dSettings_forgetSegments_22 rfl (e := (1 : Int32)) (by decide) (Nat.le_of_ble_eq_true rfl) (fun l1_22 _ => ?_)
      refine ee_lv (lv2 := [(1, .int l1_22), (0, .ref l0)]) rfl ?_
      refine ee_goto (tgt := 2) dSettings_forgetSegments_25 (by decide) ?_
      refine ee_pick [1, 0] rfl ?_
      exact ih _ _ w21
def fSettings_forgetSegments (l0 : Nat) (w : PW) : PX := fSettings_forgetSegments_2 FUEL l0 (0 : Int32) w
set_option maxRecDepth 20000 in
set_option maxHeartbeats 2000000 in
theorem t_fSettings_forgetSegments {Γ : PG} : ∀ (l0 : Nat) (w : PW), EE Γ MSettings_forgetSegments 0 (lv_args 0 [.ref l0]) [] w (fSettings_forgetSegments l0 w) := by
  intro l0 w
  unfold fSettings_forgetSegments
  show EE Γ MSettings_forgetSegments 0 [(0, .ref l0)] [] w _
  refine ee_iconst (v := (0 : Int32)) dSettings_forgetSegments_0 (by decide) ?_
  refine ee_istore_n (lv2 := [(1, .int (0 : Int32)), (0, .ref l0)]) dSettings_forgetSegments_1 (Nat.le_of_ble_eq_true rfl) rfl ?_
  refine ee_pick [1, 0] rfl ?_
  exact t_fSettings_forgetSegments_2 FUEL _ _ w
def fSettings_place (l0 : Int32) (l1 : Int32) (w : PW) : PX := some (.inl (some (.int (((l0 * (7 : Int32)) + l1) - (4 : Int32)))), w)
set_option maxRecDepth 20000 in
set_option maxHeartbeats 2000000 in
theorem t_fSettings_place {Γ : PG} : ∀ (l0 : Int32) (l1 : Int32) (w : PW), EE Γ MSettings_place 0 (lv_args 0 [.int l0, .int l1]) [] w (fSettings_place l0 l1 w) := by
  intro l0 l1 w
  unfold fSettings_place
  show EE Γ MSettings_place 0 [(0, .int l0), (1, .int l1)] [] w _
  refine ee_iload_n 0 dSettings_place_0 rfl ?_
  refine ee_bipush (v := (7 : Int32)) dSettings_place_1 (by decide) ?_
  refine ee_imul dSettings_place_3 ?_
  refine ee_iload_n 1 dSettings_place_4 rfl ?_
  refine ee_iadd dSettings_place_5 ?_
  refine ee_iconst (v := (4 : Int32)) dSettings_place_6 (by decide) ?_
  refine ee_isub dSettings_place_7 ?_
  exact ee_iret rfl dSettings_place_8
def fSettings_hold (l0 : Nat) (l1 : Int32) (l2 : Int32) (l3 : Int32) (w : PW) : PX := (p_getR w l0 7 2).bind fun v1 => p_call (fSettings_place l1 l2 w) <| p_kI fun v6 w6 => (p_ast w6 v1 0 v6 l3).bind fun w10 => if (9 : Int32) ≤ l2 then ((p_getR w10 l0 7 4).bind fun v28 => (p_ast w10 v28 2 l1 (vp_nar .boolean (1 : Int32))).bind fun w33 => some (.inl none, w33)) else ((p_getR w10 l0 7 3).bind fun v18 => (p_ast w10 v18 2 l1 (vp_nar .boolean (1 : Int32))).bind fun w23 => some (.inl none, w23))
set_option maxRecDepth 20000 in
set_option maxHeartbeats 2000000 in
theorem t_fSettings_hold {Γ : PG} : ∀ (l0 : Nat) (l1 : Int32) (l2 : Int32) (l3 : Int32) (w : PW), EE Γ MSettings_hold 0 (lv_args 0 [.ref l0, .int l1, .int l2, .int l3]) [] w (fSettings_hold l0 l1 l2 l3 w) := by
  intro l0 l1 l2 l3 w
  unfold fSettings_hold
  show EE Γ MSettings_hold 0 [(0, .ref l0), (1, .int l1), (2, .int l2), (3, .int l3)] [] w _
  refine ee_aload_n 0 dSettings_hold_0 rfl ?_
  refine ee_getR dSettings_hold_1 lfSettings_18 (fun v1 _ => ?_)
  refine ee_iload_n 1 dSettings_hold_4 rfl ?_
  refine ee_iload_n 2 dSettings_hold_5 rfl ?_
  refine ee_callS (as := [.int l1, .int l2]) (st := [.ref v1]) dSettings_hold_6 (t_fSettings_place l1 l2 w) my_fSettings_place.1 (Nat.le_of_ble_eq_true rfl) my_fSettings_place.2 rfl gw_319 gw_320 ⟨Nat.le_of_ble_eq_true rfl, Nat.le_of_ble_eq_true rfl⟩ (Nat.le_of_ble_eq_true rfl) (fun rv6 w6 _ => ?_)
  refine ee_kI (fun v6 => ?_)
  refine ee_iload_n 3 dSettings_hold_9 rfl ?_
  refine ee_iast (t := 0) dSettings_hold_10 rfl (fun w10 _ => ?_)
  refine ee_iload_n 2 dSettings_hold_11 rfl ?_
  refine ee_bipush (v := (9 : Int32)) dSettings_hold_12 (by decide) ?_
  refine ee_icmp_ge (tgt := 27) dSettings_hold_14 (by decide) (fun h14 => ?_) (fun h14 => ?_)
  · refine ee_aload_n 0 dSettings_hold_27 rfl ?_
    refine ee_getR dSettings_hold_28 lfSettings_25 (fun v28 _ => ?_)
    refine ee_iload_n 1 dSettings_hold_31 rfl ?_
    refine ee_iconst (v := (1 : Int32)) dSettings_hold_32 (by decide) ?_
    refine ee_zast (t := 2) dSettings_hold_33 rfl (fun w33 _ => ?_)
    exact ee_vret rfl dSettings_hold_34
  · refine ee_aload_n 0 dSettings_hold_17 rfl ?_
    refine ee_getR dSettings_hold_18 lfSettings_21 (fun v18 _ => ?_)
    refine ee_iload_n 1 dSettings_hold_21 rfl ?_
    refine ee_iconst (v := (1 : Int32)) dSettings_hold_22 (by decide) ?_
    refine ee_zast (t := 2) dSettings_hold_23 rfl (fun w23 _ => ?_)
    refine ee_goto (tgt := 34) dSettings_hold_24 (by decide) ?_
    exact ee_vret rfl dSettings_hold_34
def fSettings_restart_65 : Nat → Nat → Int32 → PW → PX
  | 0, _, _, _ => none
  | n9 + 1, l0, l3, w => if (10 : Int32) < l3 then (some (.inl none, w)) else ((p_tab 2 l3).bind fun v78 => (p_obj w l0 7).bind fun _ => p_call (fSettings_hold l0 (0 : Int32) l3 v78 w) <| p_kV fun w79 => p_let (l3 + (1 : Int32)) fun (l3_82 : Int32) => (fSettings_restart_65 n9) l0 l3_82 w79)
set_option maxRecDepth 20000 in
set_option maxHeartbeats 2000000 in
theorem t_fSettings_restart_65 {Γ : PG} : ∀ (n9 : Nat) (l0 : Nat) (l3 : Int32) (w : PW), EE Γ MSettings_restart 65 [(0, .ref l0), (3, .int l3)] [] w (fSettings_restart_65 n9 l0 l3 w) := by
  intro n9
  induction n9 with
  | zero => intro l0 l3 w; exact ee_none
  | succ n9 ih =>
    intro l0 l3 w
    unfold fSettings_restart_65
    refine ee_iload_n 1 dSettings_restart_65 rfl ?_
    refine ee_bipush (v := (10 : Int32)) dSettings_restart_66 (by decide) ?_
    refine ee_icmp_gt (tgt := 88) dSettings_restart_68 (by decide) (fun h68 => ?_) (fun h68 => ?_)
    · exact ee_vret rfl dSettings_restart_88
    · refine ee_aload_n 0 dSettings_restart_71 rfl ?_
      refine ee_iconst (v := (0 : Int32)) dSettings_restart_72 (by decide) ?_
      refine ee_iload_n 1 dSettings_restart_73 rfl ?_
      refine ee_gets (j := 2) (by decide) dSettings_restart_74 lsSettings_35 ?_
      refine ee_iload_n 1 dSettings_restart_77 rfl ?_
      refine ee_tald (by decide) dSettings_restart_78 (fun v78 _ => ?_)
      refine ee_bind (fun _ ho79 => ?_)
      refine ee_callV (as := [.int (0 : Int32), .int l3, .int v78]) (st := []) dSettings_restart_79 (t_fSettings_hold l0 (0 : Int32) l3 v78 w) my_fSettings_hold.1 (Nat.le_of_ble_eq_true rfl) my_fSettings_hold.2 rfl cf_7.1 rfl (p_obj_eq.mp ho79) gw_315 gw_316 gw_317 ⟨Nat.le_of_ble_eq_true rfl, Nat.le_of_ble_eq_true rfl⟩ (Nat.le_of_ble_eq_true rfl) (fun rv79 w79 _ => ?_)
      refine ee_kV ?_
      refine ee_iinc 1 dSettings_restart_82 rfl (e := (1 : Int32)) (by decide) (Nat.le_of_ble_eq_true rfl) (fun l3_82 _ => ?_)
      refine ee_lv (lv2 := [(3, .int l3_82), (0, .ref l0)]) rfl ?_
      refine ee_goto (tgt := 65) dSettings_restart_85 (by decide) ?_
      refine ee_pick [1, 0] rfl ?_
      exact ih _ _ w79
def fSettings_restart_37 : Nat → Nat → Int32 → PW → PX
  | 0, _, _, _ => none
  | n9 + 1, l0, l3, w => if (4 : Int32) ≤ l3 then ((p_obj w l0 7).bind fun _ => p_call (fSettings_forgetSegments l0 w) <| p_kV fun w60 => fSettings_restart_65 FUEL l0 (4 : Int32) w60) else ((p_getR w l0 7 1).bind fun v43 => (p_tab 2 (3 : Int32)).bind fun v51 => (p_ast w v43 0 l3 v51).bind fun w52 => p_let (l3 + (1 : Int32)) fun (l3_53 : Int32) => (fSettings_restart_37 n9) l0 l3_53 w52)
set_option maxRecDepth 20000 in
set_option maxHeartbeats 2000000 in
theorem t_fSettings_restart_37 {Γ : PG} : ∀ (n9 : Nat) (l0 : Nat) (l3 : Int32) (w : PW), EE Γ MSettings_restart 37 [(0, .ref l0), (3, .int l3)] [] w (fSettings_restart_37 n9 l0 l3 w) := by
  intro n9
  induction n9 with
  | zero => intro l0 l3 w; exact ee_none
  | succ n9 ih =>
    intro l0 l3 w
    unfold fSettings_restart_37
    refine ee_iload_n 1 dSettings_restart_37 rfl ?_
    refine ee_iconst (v := (4 : Int32)) dSettings_restart_38 (by decide) ?_
    refine ee_icmp_ge (tgt := 59) dSettings_restart_39 (by decide) (fun h39 => ?_) (fun h39 => ?_)
    · refine ee_aload_n 0 dSettings_restart_59 rfl ?_
      refine ee_bind (fun _ ho60 => ?_)
      refine ee_callV (as := []) (st := []) dSettings_restart_60 (t_fSettings_forgetSegments l0 w) my_fSettings_forgetSegments.1 (Nat.le_of_ble_eq_true rfl) my_fSettings_forgetSegments.2 rfl cf_7.1 rfl (p_obj_eq.mp ho60) gw_311 gw_312 gw_313 ⟨Nat.le_of_ble_eq_true rfl, Nat.le_of_ble_eq_true rfl⟩ (Nat.le_of_ble_eq_true rfl) (fun rv60 w60 _ => ?_)
      refine ee_kV ?_
      refine ee_iconst (v := (4 : Int32)) dSettings_restart_63 (by decide) ?_
      refine ee_istore_n (lv2 := [(3, .int (4 : Int32)), (0, .ref l0)]) dSettings_restart_64 (Nat.le_of_ble_eq_true rfl) rfl ?_
      refine ee_pick [1, 0] rfl ?_
      exact t_fSettings_restart_65 FUEL _ _ w60
    · refine ee_aload_n 0 dSettings_restart_42 rfl ?_
      refine ee_getR dSettings_restart_43 lfSettings_15 (fun v43 _ => ?_)
      refine ee_iload_n 1 dSettings_restart_46 rfl ?_
      refine ee_gets (j := 2) (by decide) dSettings_restart_47 lsSettings_35 ?_
      refine ee_iconst (v := (3 : Int32)) dSettings_restart_50 (by decide) ?_
      refine ee_tald (by decide) dSettings_restart_51 (fun v51 _ => ?_)
      refine ee_iast (t := 0) dSettings_restart_52 rfl (fun w52 _ => ?_)
      refine ee_iinc 1 dSettings_restart_53 rfl (e := (1 : Int32)) (by decide) (Nat.le_of_ble_eq_true rfl) (fun l3_53 _ => ?_)
      refine ee_lv (lv2 := [(3, .int l3_53), (0, .ref l0)]) rfl ?_
      refine ee_goto (tgt := 37) dSettings_restart_56 (by decide) ?_
      refine ee_pick [1, 0] rfl ?_
      exact ih _ _ w52
def fSettings_restart (l0 : Nat) (l1 : Int32) (l2 : Int32) (w : PW) : PX := (p_put w l0 7 5 (.int l1)).bind fun w2 => (p_put w2 l0 7 6 (.int l2)).bind fun w7 => (p_getR w7 l0 7 0).bind fun v11 => (p_ast w7 v11 0 (0 : Int32) l1).bind fun w16 => (p_getR w16 l0 7 0).bind fun v18 => (p_ast w16 v18 0 (1 : Int32) l2).bind fun w23 => (p_getR w23 l0 7 0).bind fun v25 => (p_tab 2 (2 : Int32)).bind fun v33 => (p_ast w23 v25 0 (2 : Int32) v33).bind fun w34 => fSettings_restart_37 FUEL l0 (0 : Int32) w34
set_option maxRecDepth 20000 in
set_option maxHeartbeats 2000000 in
theorem t_fSettings_restart {Γ : PG} : ∀ (l0 : Nat) (l1 : Int32) (l2 : Int32) (w : PW), EE Γ MSettings_restart 0 (lv_args 0 [.ref l0, .int l1, .int l2]) [] w (fSettings_restart l0 l1 l2 w) := by
  intro l0 l1 l2 w
  unfold fSettings_restart
  show EE Γ MSettings_restart 0 [(0, .ref l0), (1, .int l1), (2, .int l2)] [] w _
  refine ee_aload_n 0 dSettings_restart_0 rfl ?_
  refine ee_iload_n 1 dSettings_restart_1 rfl ?_
  refine ee_put dSettings_restart_2 lpSettings_28 (ee_nI _) (fun w2 _ => ?_)
  refine ee_aload_n 0 dSettings_restart_5 rfl ?_
  refine ee_iload_n 2 dSettings_restart_6 rfl ?_
  refine ee_put dSettings_restart_7 lpSettings_32 (ee_nI _) (fun w7 _ => ?_)
  refine ee_aload_n 0 dSettings_restart_10 rfl ?_
  refine ee_getR dSettings_restart_11 lfSettings_11 (fun v11 _ => ?_)
  refine ee_iconst (v := (0 : Int32)) dSettings_restart_14 (by decide) ?_
  refine ee_iload_n 1 dSettings_restart_15 rfl ?_
  refine ee_iast (t := 0) dSettings_restart_16 rfl (fun w16 _ => ?_)
  refine ee_aload_n 0 dSettings_restart_17 rfl ?_
  refine ee_getR dSettings_restart_18 lfSettings_11 (fun v18 _ => ?_)
  refine ee_iconst (v := (1 : Int32)) dSettings_restart_21 (by decide) ?_
  refine ee_iload_n 2 dSettings_restart_22 rfl ?_
  refine ee_iast (t := 0) dSettings_restart_23 rfl (fun w23 _ => ?_)
  refine ee_aload_n 0 dSettings_restart_24 rfl ?_
  refine ee_getR dSettings_restart_25 lfSettings_11 (fun v25 _ => ?_)
  refine ee_iconst (v := (2 : Int32)) dSettings_restart_28 (by decide) ?_
  refine ee_gets (j := 2) (by decide) dSettings_restart_29 lsSettings_35 ?_
  refine ee_iconst (v := (2 : Int32)) dSettings_restart_32 (by decide) ?_
  refine ee_tald (by decide) dSettings_restart_33 (fun v33 _ => ?_)
  refine ee_iast (t := 0) dSettings_restart_34 rfl (fun w34 _ => ?_)
  refine ee_iconst (v := (0 : Int32)) dSettings_restart_35 (by decide) ?_
  refine ee_istore_n (lv2 := [(3, .int (0 : Int32)), (0, .ref l0), (1, .int l1), (2, .int l2)]) dSettings_restart_36 (Nat.le_of_ble_eq_true rfl) rfl ?_
  refine ee_pick [1, 0] rfl ?_
  exact t_fSettings_restart_37 FUEL _ _ w34
def fSettings_slotOf_34 (l2 : Int32) (s0 : Int32) (w : PW) : PX := some (.inl (some (.int ((l2 * (5 : Int32)) + s0))), w)
set_option maxRecDepth 20000 in
set_option maxHeartbeats 2000000 in
theorem t_fSettings_slotOf_34 {Γ : PG} : ∀ (l2 : Int32) (s0 : Int32) (w : PW), EE Γ MSettings_slotOf 34 [(2, .int l2)] [.int s0] w (fSettings_slotOf_34 l2 s0 w) := by
  intro l2 s0 w
  unfold fSettings_slotOf_34
  refine ee_istore_n (lv2 := [(3, .int s0), (2, .int l2)]) dSettings_slotOf_34 (Nat.le_of_ble_eq_true rfl) rfl ?_
  refine ee_iload_n 1 dSettings_slotOf_35 rfl ?_
  refine ee_iconst (v := (5 : Int32)) dSettings_slotOf_36 (by decide) ?_
  refine ee_imul dSettings_slotOf_37 ?_
  refine ee_iload_n 0 dSettings_slotOf_38 rfl ?_
  refine ee_iadd dSettings_slotOf_39 ?_
  exact ee_iret rfl dSettings_slotOf_40
def fSettings_slotOf_17 (l1 : Int32) (s0 : Int32) (w : PW) : PX := if l1 < 0 then (fSettings_slotOf_34 s0 (0 : Int32) w) else (if (4 : Int32) ≤ l1 then (fSettings_slotOf_34 s0 (0 : Int32) w) else (fSettings_slotOf_34 s0 (l1 + (1 : Int32)) w))
set_option maxRecDepth 20000 in
set_option maxHeartbeats 2000000 in
theorem t_fSettings_slotOf_17 {Γ : PG} : ∀ (l1 : Int32) (s0 : Int32) (w : PW), EE Γ MSettings_slotOf 17 [(1, .int l1)] [.int s0] w (fSettings_slotOf_17 l1 s0 w) := by
  intro l1 s0 w
  unfold fSettings_slotOf_17
  refine ee_istore_n (lv2 := [(2, .int s0), (1, .int l1)]) dSettings_slotOf_17 (Nat.le_of_ble_eq_true rfl) rfl ?_
  refine ee_iload_n 1 dSettings_slotOf_18 rfl ?_
  refine ee_if_lt (tgt := 33) dSettings_slotOf_19 (by decide) (fun h19 => ?_) (fun h19 => ?_)
  · refine ee_iconst (v := (0 : Int32)) dSettings_slotOf_33 (by decide) ?_
    refine ee_pick [0] rfl ?_
    exact t_fSettings_slotOf_34 _ _ w
  · refine ee_iload_n 1 dSettings_slotOf_22 rfl ?_
    refine ee_iconst (v := (4 : Int32)) dSettings_slotOf_23 (by decide) ?_
    refine ee_icmp_ge (tgt := 33) dSettings_slotOf_24 (by decide) (fun h24 => ?_) (fun h24 => ?_)
    · refine ee_iconst (v := (0 : Int32)) dSettings_slotOf_33 (by decide) ?_
      refine ee_pick [0] rfl ?_
      exact t_fSettings_slotOf_34 _ _ w
    · refine ee_iload_n 1 dSettings_slotOf_27 rfl ?_
      refine ee_iconst (v := (1 : Int32)) dSettings_slotOf_28 (by decide) ?_
      refine ee_iadd dSettings_slotOf_29 ?_
      refine ee_goto (tgt := 34) dSettings_slotOf_30 (by decide) ?_
      refine ee_pick [0] rfl ?_
      exact t_fSettings_slotOf_34 _ _ w
def fSettings_slotOf (l0 : Int32) (l1 : Int32) (w : PW) : PX := if l0 < 0 then (fSettings_slotOf_17 l1 (0 : Int32) w) else (if (24 : Int32) ≤ l0 then (fSettings_slotOf_17 l1 (0 : Int32) w) else (fSettings_slotOf_17 l1 (l0 + (1 : Int32)) w))
set_option maxRecDepth 20000 in
set_option maxHeartbeats 2000000 in
theorem t_fSettings_slotOf {Γ : PG} : ∀ (l0 : Int32) (l1 : Int32) (w : PW), EE Γ MSettings_slotOf 0 (lv_args 0 [.int l0, .int l1]) [] w (fSettings_slotOf l0 l1 w) := by
  intro l0 l1 w
  unfold fSettings_slotOf
  show EE Γ MSettings_slotOf 0 [(0, .int l0), (1, .int l1)] [] w _
  refine ee_iload_n 0 dSettings_slotOf_0 rfl ?_
  refine ee_if_lt (tgt := 16) dSettings_slotOf_1 (by decide) (fun h1 => ?_) (fun h1 => ?_)
  · refine ee_iconst (v := (0 : Int32)) dSettings_slotOf_16 (by decide) ?_
    refine ee_pick [1] rfl ?_
    exact t_fSettings_slotOf_17 _ _ w
  · refine ee_iload_n 0 dSettings_slotOf_4 rfl ?_
    refine ee_bipush (v := (24 : Int32)) dSettings_slotOf_5 (by decide) ?_
    refine ee_icmp_ge (tgt := 16) dSettings_slotOf_7 (by decide) (fun h7 => ?_) (fun h7 => ?_)
    · refine ee_iconst (v := (0 : Int32)) dSettings_slotOf_16 (by decide) ?_
      refine ee_pick [1] rfl ?_
      exact t_fSettings_slotOf_17 _ _ w
    · refine ee_iload_n 0 dSettings_slotOf_10 rfl ?_
      refine ee_iconst (v := (1 : Int32)) dSettings_slotOf_11 (by decide) ?_
      refine ee_iadd dSettings_slotOf_12 ?_
      refine ee_goto (tgt := 17) dSettings_slotOf_13 (by decide) ?_
      refine ee_pick [1] rfl ?_
      exact t_fSettings_slotOf_17 _ _ w
