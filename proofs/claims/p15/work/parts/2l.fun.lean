def fD_isPlace_82 (l2 : Int32) (l4 : Int32) (w : PW) : PX := if l2 ≤ (3 : Int32) then (p_retZ (0 : Int32) w) else (if ¬ l4 = (-1 : Int32) then (p_retZ (0 : Int32) w) else (p_retZ (1 : Int32) w))
set_option maxRecDepth 20000 in
set_option maxHeartbeats 2000000 in
theorem t_fD_isPlace_82 {Γ : PG} : ∀ (l2 : Int32) (l4 : Int32) (w : PW), EE Γ MD_isPlace 82 [(2, .int l2), (4, .int l4)] [] w (fD_isPlace_82 l2 l4 w) := by
  intro l2 l4 w
  unfold fD_isPlace_82
  refine ee_iload_n 0 dD_isPlace_82 rfl ?_
  refine ee_iconst (v := (3 : Int32)) dD_isPlace_83 (by decide) ?_
  refine ee_icmp_le (tgt := 97) dD_isPlace_84 (by decide) (fun h84 => ?_) (fun h84 => ?_)
  · refine ee_iconst (v := (0 : Int32)) dD_isPlace_97 (by decide) ?_
    exact ee_zret rfl dD_isPlace_98
  · refine ee_iload 1 dD_isPlace_87 rfl ?_
    refine ee_iconst (v := (-1 : Int32)) dD_isPlace_89 (by decide) ?_
    refine ee_icmp_ne (tgt := 97) dD_isPlace_90 (by decide) (fun h90 => ?_) (fun h90 => ?_)
    · refine ee_iconst (v := (0 : Int32)) dD_isPlace_97 (by decide) ?_
      exact ee_zret rfl dD_isPlace_98
    · refine ee_iconst (v := (1 : Int32)) dD_isPlace_93 (by decide) ?_
      refine ee_goto (tgt := 98) dD_isPlace_94 (by decide) ?_
      exact ee_zret rfl dD_isPlace_98
def fD_isPlace_72 (l2 : Int32) (l3 : Int32) (l4 : Int32) (w : PW) : PX := if ¬ l2 = (3 : Int32) then (fD_isPlace_82 l2 l4 w) else (if l3 = (-1 : Int32) then (p_retZ (1 : Int32) w) else (fD_isPlace_82 l2 l4 w))
set_option maxRecDepth 20000 in
set_option maxHeartbeats 2000000 in
theorem t_fD_isPlace_72 {Γ : PG} : ∀ (l2 : Int32) (l3 : Int32) (l4 : Int32) (w : PW), EE Γ MD_isPlace 72 [(2, .int l2), (3, .int l3), (4, .int l4)] [] w (fD_isPlace_72 l2 l3 l4 w) := by
  intro l2 l3 l4 w
  unfold fD_isPlace_72
  refine ee_iload_n 0 dD_isPlace_72 rfl ?_
  refine ee_iconst (v := (3 : Int32)) dD_isPlace_73 (by decide) ?_
  refine ee_icmp_ne (tgt := 82) dD_isPlace_74 (by decide) (fun h74 => ?_) (fun h74 => ?_)
  · refine ee_pick [0, 2] rfl ?_
    exact t_fD_isPlace_82 _ _ w
  · refine ee_iload_n 1 dD_isPlace_77 rfl ?_
    refine ee_iconst (v := (-1 : Int32)) dD_isPlace_78 (by decide) ?_
    refine ee_icmp_eq (tgt := 93) dD_isPlace_79 (by decide) (fun h79 => ?_) (fun h79 => ?_)
    · refine ee_iconst (v := (1 : Int32)) dD_isPlace_93 (by decide) ?_
      refine ee_goto (tgt := 98) dD_isPlace_94 (by decide) ?_
      exact ee_zret rfl dD_isPlace_98
    · refine ee_pick [0, 2] rfl ?_
      exact t_fD_isPlace_82 _ _ w
def fD_isPlace (l0 : Nat) (l1 : Int32) (l2 : Int32) (l3 : Int32) (l4 : Int32) (w : PW) : PX := p_call (fD_in (Int32.toInt64 l2) (0 : Int64) (10 : Int64) w) <| p_kI fun v6 w6 => if v6 = 0 then (p_retZ (0 : Int32) w6) else ((p_obj w6 l0 10).bind fun _ => p_call (fD_tiles l0 l1 w6) <| p_kI fun v19 w19 => p_call (fD_in (Int32.toInt64 l3) (-1 : Int64) ((Int32.toInt64 v19) - (1 : Int64)) w19) <| p_kI fun v25 w25 => if v25 = 0 then (p_retZ (0 : Int32) w25) else ((p_getR w25 l0 10 7).bind fun v38 => (p_ald w25 v38 0 (l1 + (2 : Int32))).bind fun v44 => p_call (fD_in (Int32.toInt64 l4) (-1 : Int64) ((Int32.toInt64 v44) - (1 : Int64)) w25) <| p_kI fun v48 w48 => if ¬ v48 = 0 then (if (5 : Int32) < l2 then (p_retZ (1 : Int32) w48) else (if ¬ l4 = (-1 : Int32) then (fD_isPlace_72 l2 l3 l4 w48) else (if l3 = (-1 : Int32) then (p_retZ (1 : Int32) w48) else (fD_isPlace_72 l2 l3 l4 w48)))) else (p_retZ (0 : Int32) w48)))
set_option maxRecDepth 20000 in
set_option maxHeartbeats 2000000 in
theorem t_fD_isPlace {Γ : PG} : ∀ (l0 : Nat) (l1 : Int32) (l2 : Int32) (l3 : Int32) (l4 : Int32) (w : PW), EE Γ MD_isPlace 0 (lv_args 0 [.ref l0, .int l1, .int l2, .int l3, .int l4]) [] w (fD_isPlace l0 l1 l2 l3 l4 w) := by
  intro l0 l1 l2 l3 l4 w
  unfold fD_isPlace
  show EE Γ MD_isPlace 0 [(0, .ref l0), (1, .int l1), (2, .int l2), (3, .int l3), (4, .int l4)] [] w _
  refine ee_iload_n 2 dD_isPlace_0 rfl ?_
  refine ee_i2l dD_isPlace_1 ?_
  refine ee_lconst (v := (0 : Int64)) dD_isPlace_2 (by decide) ?_
  refine ee_ldc2 (v := (10 : Int64)) dD_isPlace_3 gw_1319 ?_
  refine ee_callS (as := [.long (Int32.toInt64 l2), .long (0 : Int64), .long (10 : Int64)]) (st := []) dD_isPlace_6 (t_fD_in (Int32.toInt64 l2) (0 : Int64) (10 : Int64) w) my_fD_in.1 (Nat.le_of_ble_eq_true rfl) my_fD_in.2 rfl gw_1320 gw_1321 ⟨Nat.le_of_ble_eq_true rfl, Nat.le_of_ble_eq_true rfl⟩ (Nat.le_of_ble_eq_true rfl) (fun rv6 w6 _ => ?_)
  refine ee_kI (fun v6 => ?_)
  refine ee_if_eq (tgt := 54) dD_isPlace_9 (by decide) (fun h9 => ?_) (fun h9 => ?_)
  · refine ee_iconst (v := (0 : Int32)) dD_isPlace_54 (by decide) ?_
    exact ee_zret rfl dD_isPlace_55
  · refine ee_iload_n 3 dD_isPlace_12 rfl ?_
    refine ee_i2l dD_isPlace_13 ?_
    refine ee_ldc2 (v := (-1 : Int64)) dD_isPlace_14 gw_1323 ?_
    refine ee_aload_n 0 dD_isPlace_17 rfl ?_
    refine ee_iload_n 1 dD_isPlace_18 rfl ?_
    refine ee_bind (fun _ ho19 => ?_)
    refine ee_callV (as := [.int l1]) (st := [.long (-1 : Int64), .long (Int32.toInt64 l3)]) dD_isPlace_19 (t_fD_tiles l0 l1 w6) my_fD_tiles.1 (Nat.le_of_ble_eq_true rfl) my_fD_tiles.2 rfl cf_10.1 rfl (p_obj_eq.mp ho19) gw_1324 gw_1326 gw_11 ⟨Nat.le_of_ble_eq_true rfl, Nat.le_of_ble_eq_true rfl⟩ (Nat.le_of_ble_eq_true rfl) (fun rv19 w19 _ => ?_)
    refine ee_kI (fun v19 => ?_)
    refine ee_i2l dD_isPlace_22 ?_
    refine ee_lconst (v := (1 : Int64)) dD_isPlace_23 (by decide) ?_
    refine ee_lsub dD_isPlace_24 ?_
    refine ee_callS (as := [.long (Int32.toInt64 l3), .long (-1 : Int64), .long ((Int32.toInt64 v19) - (1 : Int64))]) (st := []) dD_isPlace_25 (t_fD_in (Int32.toInt64 l3) (-1 : Int64) ((Int32.toInt64 v19) - (1 : Int64)) w19) my_fD_in.1 (Nat.le_of_ble_eq_true rfl) my_fD_in.2 rfl gw_1320 gw_1321 ⟨Nat.le_of_ble_eq_true rfl, Nat.le_of_ble_eq_true rfl⟩ (Nat.le_of_ble_eq_true rfl) (fun rv25 w25 _ => ?_)
    refine ee_kI (fun v25 => ?_)
    refine ee_if_eq (tgt := 54) dD_isPlace_28 (by decide) (fun h28 => ?_) (fun h28 => ?_)
    · refine ee_iconst (v := (0 : Int32)) dD_isPlace_54 (by decide) ?_
      exact ee_zret rfl dD_isPlace_55
    · refine ee_iload 4 dD_isPlace_31 rfl ?_
      refine ee_i2l dD_isPlace_33 ?_
      refine ee_ldc2 (v := (-1 : Int64)) dD_isPlace_34 gw_1323 ?_
      refine ee_aload_n 0 dD_isPlace_37 rfl ?_
      refine ee_getR dD_isPlace_38 lfD_23 (fun v38 _ => ?_)
      refine ee_iload_n 1 dD_isPlace_41 rfl ?_
      refine ee_iconst (v := (2 : Int32)) dD_isPlace_42 (by decide) ?_
      refine ee_iadd dD_isPlace_43 ?_
      refine ee_iald (t := 0) dD_isPlace_44 rfl (fun v44 _ => ?_)
      refine ee_i2l dD_isPlace_45 ?_
      refine ee_lconst (v := (1 : Int64)) dD_isPlace_46 (by decide) ?_
      refine ee_lsub dD_isPlace_47 ?_
      refine ee_callS (as := [.long (Int32.toInt64 l4), .long (-1 : Int64), .long ((Int32.toInt64 v44) - (1 : Int64))]) (st := []) dD_isPlace_48 (t_fD_in (Int32.toInt64 l4) (-1 : Int64) ((Int32.toInt64 v44) - (1 : Int64)) w25) my_fD_in.1 (Nat.le_of_ble_eq_true rfl) my_fD_in.2 rfl gw_1320 gw_1321 ⟨Nat.le_of_ble_eq_true rfl, Nat.le_of_ble_eq_true rfl⟩ (Nat.le_of_ble_eq_true rfl) (fun rv48 w48 _ => ?_)
      refine ee_kI (fun v48 => ?_)
      refine ee_if_ne (tgt := 56) dD_isPlace_51 (by decide) (fun h51 => ?_) (fun h51 => ?_)
      · refine ee_iload_n 2 dD_isPlace_56 rfl ?_
        refine ee_iconst (v := (5 : Int32)) dD_isPlace_57 (by decide) ?_
        refine ee_icmp_gt (tgt := 93) dD_isPlace_58 (by decide) (fun h58 => ?_) (fun h58 => ?_)
        · refine ee_iconst (v := (1 : Int32)) dD_isPlace_93 (by decide) ?_
          refine ee_goto (tgt := 98) dD_isPlace_94 (by decide) ?_
          exact ee_zret rfl dD_isPlace_98
        · refine ee_iload 4 dD_isPlace_61 rfl ?_
          refine ee_iconst (v := (-1 : Int32)) dD_isPlace_63 (by decide) ?_
          refine ee_icmp_ne (tgt := 72) dD_isPlace_64 (by decide) (fun h64 => ?_) (fun h64 => ?_)
          · refine ee_pick [2, 3, 4] rfl ?_
            exact t_fD_isPlace_72 _ _ _ w48
          · refine ee_iload_n 3 dD_isPlace_67 rfl ?_
            refine ee_iconst (v := (-1 : Int32)) dD_isPlace_68 (by decide) ?_
            refine ee_icmp_eq (tgt := 93) dD_isPlace_69 (by decide) (fun h69 => ?_) (fun h69 => ?_)
            · refine ee_iconst (v := (1 : Int32)) dD_isPlace_93 (by decide) ?_
              refine ee_goto (tgt := 98) dD_isPlace_94 (by decide) ?_
              exact ee_zret rfl dD_isPlace_98
            · refine ee_pick [2, 3, 4] rfl ?_
              exact t_fD_isPlace_72 _ _ _ w48
      · refine ee_iconst (v := (0 : Int32)) dD_isPlace_54 (by decide) ?_
        exact ee_zret rfl dD_isPlace_55
def fD_isFixed_15 : Nat → Nat → Int32 → Int32 → PW → PX
  | 0, _, _, _, _ => none
  | n9 + 1, l0, l1, l2, w => if (125 : Int32) ≤ l2 then (p_retZ l1 w) else (if ¬ l1 = 0 then (p_let (l2 + (1 : Int32)) fun (l2_49 : Int32) => (fD_isFixed_15 n9) l0 (1 : Int32) l2_49 w) else ((p_getR w l0 10 4).bind fun v26 => (p_ald w v26 2 l2).bind fun v30 => if ¬ v30 = 0 then (p_let (l2 + (1 : Int32)) fun (l2_49 : Int32) => (fD_isFixed_15 n9) l0 (1 : Int32) l2_49 w) else ((p_getR w l0 10 5).bind fun v35 => (p_ald w v35 2 l2).bind fun v39 => if v39 = 0 then (p_let (l2 + (1 : Int32)) fun (l2_49 : Int32) => (fD_isFixed_15 n9) l0 (0 : Int32) l2_49 w) else (p_let (l2 + (1 : Int32)) fun (l2_49 : Int32) => (fD_isFixed_15 n9) l0 (1 : Int32) l2_49 w))))
set_option maxRecDepth 20000 in
set_option maxHeartbeats 2000000 in
theorem t_fD_isFixed_15 {Γ : PG} : ∀ (n9 : Nat) (l0 : Nat) (l1 : Int32) (l2 : Int32) (w : PW), EE Γ MD_isFixed 15 [(0, .ref l0), (1, .int l1), (2, .int l2)] [] w (fD_isFixed_15 n9 l0 l1 l2 w) := by
  intro n9
  induction n9 with
  | zero => intro l0 l1 l2 w; exact ee_none
  | succ n9 ih =>
    intro l0 l1 l2 w
    unfold fD_isFixed_15
    refine ee_iload_n 2 dD_isFixed_15 rfl ?_
    refine ee_bipush (v := (125 : Int32)) dD_isFixed_16 (by decide) ?_
    refine ee_icmp_ge (tgt := 55) dD_isFixed_18 (by decide) (fun h18 => ?_) (fun h18 => ?_)
    · refine ee_iload_n 1 dD_isFixed_55 rfl ?_
      exact ee_zret rfl dD_isFixed_56
    · refine ee_iload_n 1 dD_isFixed_21 rfl ?_
      refine ee_if_ne (tgt := 43) dD_isFixed_22 (by decide) (fun h22 => ?_) (fun h22 => ?_)
      · refine ee_iconst (v := (1 : Int32)) dD_isFixed_43 (by decide) ?_
        refine ee_goto (tgt := 48) dD_isFixed_44 (by decide) ?_
        refine ee_istore_n (lv2 := [(1, .int (1 : Int32)), (0, .ref l0), (2, .int l2)]) dD_isFixed_48 (Nat.le_of_ble_eq_true rfl) rfl ?_
        refine ee_iinc 2 dD_isFixed_49 rfl (e := (1 : Int32)) (by decide) (Nat.le_of_ble_eq_true rfl) (fun l2_49 _ => ?_)
        refine ee_lv (lv2 := [(2, .int l2_49), (1, .int (1 : Int32)), (0, .ref l0)]) rfl ?_
        refine ee_goto (tgt := 15) dD_isFixed_52 (by decide) ?_
        refine ee_pick [2, 1, 0] rfl ?_
        exact ih _ _ _ w
      · refine ee_aload_n 0 dD_isFixed_25 rfl ?_
        refine ee_getR dD_isFixed_26 lfD_13 (fun v26 _ => ?_)
        refine ee_iload_n 2 dD_isFixed_29 rfl ?_
        refine ee_zald (t := 2) dD_isFixed_30 rfl (fun v30 _ => ?_)
        refine ee_if_ne (tgt := 43) dD_isFixed_31 (by decide) (fun h31 => ?_) (fun h31 => ?_)
        · refine ee_iconst (v := (1 : Int32)) dD_isFixed_43 (by decide) ?_
          refine ee_goto (tgt := 48) dD_isFixed_44 (by decide) ?_
          refine ee_istore_n (lv2 := [(1, .int (1 : Int32)), (0, .ref l0), (2, .int l2)]) dD_isFixed_48 (Nat.le_of_ble_eq_true rfl) rfl ?_
          refine ee_iinc 2 dD_isFixed_49 rfl (e := (1 : Int32)) (by decide) (Nat.le_of_ble_eq_true rfl) (fun l2_49 _ => ?_)
          refine ee_lv (lv2 := [(2, .int l2_49), (1, .int (1 : Int32)), (0, .ref l0)]) rfl ?_
          refine ee_goto (tgt := 15) dD_isFixed_52 (by decide) ?_
          refine ee_pick [2, 1, 0] rfl ?_
          exact ih _ _ _ w
        · refine ee_aload_n 0 dD_isFixed_34 rfl ?_
          refine ee_getR dD_isFixed_35 lfD_17 (fun v35 _ => ?_)
          refine ee_iload_n 2 dD_isFixed_38 rfl ?_
          refine ee_zald (t := 2) dD_isFixed_39 rfl (fun v39 _ => ?_)
          refine ee_if_eq (tgt := 47) dD_isFixed_40 (by decide) (fun h40 => ?_) (fun h40 => ?_)
          · refine ee_iconst (v := (0 : Int32)) dD_isFixed_47 (by decide) ?_
            refine ee_istore_n (lv2 := [(1, .int (0 : Int32)), (0, .ref l0), (2, .int l2)]) dD_isFixed_48 (Nat.le_of_ble_eq_true rfl) rfl ?_
            refine ee_iinc 2 dD_isFixed_49 rfl (e := (1 : Int32)) (by decide) (Nat.le_of_ble_eq_true rfl) (fun l2_49 _ => ?_)
            refine ee_lv (lv2 := [(2, .int l2_49), (1, .int (0 : Int32)), (0, .ref l0)]) rfl ?_
            refine ee_goto (tgt := 15) dD_isFixed_52 (by decide) ?_
            refine ee_pick [2, 1, 0] rfl ?_
            exact ih _ _ _ w
          · refine ee_iconst (v := (1 : Int32)) dD_isFixed_43 (by decide) ?_
            refine ee_goto (tgt := 48) dD_isFixed_44 (by decide) ?_
            refine ee_istore_n (lv2 := [(1, .int (1 : Int32)), (0, .ref l0), (2, .int l2)]) dD_isFixed_48 (Nat.le_of_ble_eq_true rfl) rfl ?_
            refine ee_iinc 2 dD_isFixed_49 rfl (e := (1 : Int32)) (by decide) (Nat.le_of_ble_eq_true rfl) (fun l2_49 _ => ?_)
            refine ee_lv (lv2 := [(2, .int l2_49), (1, .int (1 : Int32)), (0, .ref l0)]) rfl ?_
            refine ee_goto (tgt := 15) dD_isFixed_52 (by decide) ?_
            refine ee_pick [2, 1, 0] rfl ?_
            exact ih _ _ _ w
def fD_isFixed (l0 : Nat) (w : PW) : PX := (p_getI w l0 10 8).bind fun v1 => if v1 ≤ 0 then (fD_isFixed_15 FUEL l0 (0 : Int32) (1 : Int32) w) else (fD_isFixed_15 FUEL l0 (1 : Int32) (1 : Int32) w)
set_option maxRecDepth 20000 in
set_option maxHeartbeats 2000000 in
theorem t_fD_isFixed {Γ : PG} : ∀ (l0 : Nat) (w : PW), EE Γ MD_isFixed 0 (lv_args 0 [.ref l0]) [] w (fD_isFixed l0 w) := by
  intro l0 w
  unfold fD_isFixed
  show EE Γ MD_isFixed 0 [(0, .ref l0)] [] w _
  refine ee_aload_n 0 dD_isFixed_0 rfl ?_
  refine ee_getI dD_isFixed_1 lfD_145 (fun v1 _ => ?_)
  refine ee_if_le (tgt := 11) dD_isFixed_4 (by decide) (fun h4 => ?_) (fun h4 => ?_)
  · refine ee_iconst (v := (0 : Int32)) dD_isFixed_11 (by decide) ?_
    refine ee_istore_n (lv2 := [(1, .int (0 : Int32)), (0, .ref l0)]) dD_isFixed_12 (Nat.le_of_ble_eq_true rfl) rfl ?_
    refine ee_iconst (v := (1 : Int32)) dD_isFixed_13 (by decide) ?_
    refine ee_istore_n (lv2 := [(2, .int (1 : Int32)), (1, .int (0 : Int32)), (0, .ref l0)]) dD_isFixed_14 (Nat.le_of_ble_eq_true rfl) rfl ?_
    refine ee_pick [2, 1, 0] rfl ?_
    exact t_fD_isFixed_15 FUEL _ _ _ w
  · refine ee_iconst (v := (1 : Int32)) dD_isFixed_7 (by decide) ?_
    refine ee_goto (tgt := 12) dD_isFixed_8 (by decide) ?_
    refine ee_istore_n (lv2 := [(1, .int (1 : Int32)), (0, .ref l0)]) dD_isFixed_12 (Nat.le_of_ble_eq_true rfl) rfl ?_
    refine ee_iconst (v := (1 : Int32)) dD_isFixed_13 (by decide) ?_
    refine ee_istore_n (lv2 := [(2, .int (1 : Int32)), (1, .int (1 : Int32)), (0, .ref l0)]) dD_isFixed_14 (Nat.le_of_ble_eq_true rfl) rfl ?_
    refine ee_pick [2, 1, 0] rfl ?_
    exact t_fD_isFixed_15 FUEL _ _ _ w
def fD_isNumber (l0 : Int32) (l1 : Int32) (w : PW) : PX := if l0 = (0 : Int32) then (p_call (fD_in (Int32.toInt64 l1) (1 : Int64) (2000 : Int64) w) <| p_kI fun v62 w62 => p_retZ v62 w62) else if l0 = (1 : Int32) then (p_call (fD_in (Int32.toInt64 l1) (1 : Int64) (2000 : Int64) w) <| p_kI fun v62 w62 => p_retZ v62 w62) else if l0 = (2 : Int32) then (p_call (fD_in (Int32.toInt64 l1) (1 : Int64) (4 : Int64) w) <| p_kI fun v72 w72 => p_retZ v72 w72) else if l0 = (3 : Int32) then (p_call (fD_in (Int32.toInt64 l1) (1 : Int64) (16 : Int64) w) <| p_kI fun v82 w82 => p_retZ v82 w82) else if l0 = (4 : Int32) then (p_call (fD_in (Int32.toInt64 l1) (0 : Int64) (4 : Int64) w) <| p_kI fun v92 w92 => p_retZ v92 w92) else if l0 = (5 : Int32) then (p_call (fD_in (Int32.toInt64 l1) (1 : Int64) (1000 : Int64) w) <| p_kI fun v102 w102 => p_retZ v102 w102) else if l0 = (6 : Int32) then (p_call (fD_in (Int32.toInt64 l1) (0 : Int64) (5 : Int64) w) <| p_kI fun v112 w112 => p_retZ v112 w112) else if l0 = (7 : Int32) then (p_call (fD_in (Int32.toInt64 l1) (2 : Int64) (6 : Int64) w) <| p_kI fun v124 w124 => p_retZ v124 w124) else if l0 = (8 : Int32) then (p_call (fD_in (Int32.toInt64 l1) (0 : Int64) (1 : Int64) w) <| p_kI fun v132 w132 => p_retZ v132 w132) else if l0 = (9 : Int32) then (p_call (fD_in (Int32.toInt64 l1) (0 : Int64) (31 : Int64) w) <| p_kI fun v142 w142 => p_retZ v142 w142) else (p_call (fD_in (Int32.toInt64 l1) (0 : Int64) (7 : Int64) w) <| p_kI fun v152 w152 => p_retZ v152 w152)
set_option maxRecDepth 20000 in
set_option maxHeartbeats 2000000 in
theorem t_fD_isNumber {Γ : PG} : ∀ (l0 : Int32) (l1 : Int32) (w : PW), EE Γ MD_isNumber 0 (lv_args 0 [.int l0, .int l1]) [] w (fD_isNumber l0 l1 w) := by
  intro l0 l1 w
  unfold fD_isNumber
  show EE Γ MD_isNumber 0 [(0, .int l0), (1, .int l1)] [] w _
  refine ee_iload_n 0 dD_isNumber_0 rfl ?_
  refine ee_ite (fun h1_0 => ?_) (fun h1_0 => ?_)
  · refine ee_tabIn (tgt := 56) dD_isNumber_1 (by rw [h1_0]; decide) (by rw [h1_0]; decide) (by rw [h1_0]; rfl) (by decide) ?_
    refine ee_iload_n 1 dD_isNumber_56 rfl ?_
    refine ee_i2l dD_isNumber_57 ?_
    refine ee_lconst (v := (1 : Int64)) dD_isNumber_58 (by decide) ?_
    refine ee_ldc2 (v := (2000 : Int64)) dD_isNumber_59 gw_1338 ?_
    refine ee_callS (as := [.long (Int32.toInt64 l1), .long (1 : Int64), .long (2000 : Int64)]) (st := []) dD_isNumber_62 (t_fD_in (Int32.toInt64 l1) (1 : Int64) (2000 : Int64) w) my_fD_in.1 (Nat.le_of_ble_eq_true rfl) my_fD_in.2 rfl gw_1320 gw_1321 ⟨Nat.le_of_ble_eq_true rfl, Nat.le_of_ble_eq_true rfl⟩ (Nat.le_of_ble_eq_true rfl) (fun rv62 w62 _ => ?_)
    refine ee_kI (fun v62 => ?_)
    exact ee_zret rfl dD_isNumber_65
  · skip
    refine ee_ite (fun h1_1 => ?_) (fun h1_1 => ?_)
    · refine ee_tabIn (tgt := 56) dD_isNumber_1 (by rw [h1_1]; decide) (by rw [h1_1]; decide) (by rw [h1_1]; rfl) (by decide) ?_
      refine ee_iload_n 1 dD_isNumber_56 rfl ?_
      refine ee_i2l dD_isNumber_57 ?_
      refine ee_lconst (v := (1 : Int64)) dD_isNumber_58 (by decide) ?_
      refine ee_ldc2 (v := (2000 : Int64)) dD_isNumber_59 gw_1338 ?_
      refine ee_callS (as := [.long (Int32.toInt64 l1), .long (1 : Int64), .long (2000 : Int64)]) (st := []) dD_isNumber_62 (t_fD_in (Int32.toInt64 l1) (1 : Int64) (2000 : Int64) w) my_fD_in.1 (Nat.le_of_ble_eq_true rfl) my_fD_in.2 rfl gw_1320 gw_1321 ⟨Nat.le_of_ble_eq_true rfl, Nat.le_of_ble_eq_true rfl⟩ (Nat.le_of_ble_eq_true rfl) (fun rv62 w62 _ => ?_)
      refine ee_kI (fun v62 => ?_)
      exact ee_zret rfl dD_isNumber_65
    · skip
      refine ee_ite (fun h1_2 => ?_) (fun h1_2 => ?_)
      · refine ee_tabIn (tgt := 66) dD_isNumber_1 (by rw [h1_2]; decide) (by rw [h1_2]; decide) (by rw [h1_2]; rfl) (by decide) ?_
        refine ee_iload_n 1 dD_isNumber_66 rfl ?_
        refine ee_i2l dD_isNumber_67 ?_
        refine ee_lconst (v := (1 : Int64)) dD_isNumber_68 (by decide) ?_
        refine ee_ldc2 (v := (4 : Int64)) dD_isNumber_69 gw_1339 ?_
        refine ee_callS (as := [.long (Int32.toInt64 l1), .long (1 : Int64), .long (4 : Int64)]) (st := []) dD_isNumber_72 (t_fD_in (Int32.toInt64 l1) (1 : Int64) (4 : Int64) w) my_fD_in.1 (Nat.le_of_ble_eq_true rfl) my_fD_in.2 rfl gw_1320 gw_1321 ⟨Nat.le_of_ble_eq_true rfl, Nat.le_of_ble_eq_true rfl⟩ (Nat.le_of_ble_eq_true rfl) (fun rv72 w72 _ => ?_)
        refine ee_kI (fun v72 => ?_)
        exact ee_zret rfl dD_isNumber_75
      · skip
        refine ee_ite (fun h1_3 => ?_) (fun h1_3 => ?_)
        · refine ee_tabIn (tgt := 76) dD_isNumber_1 (by rw [h1_3]; decide) (by rw [h1_3]; decide) (by rw [h1_3]; rfl) (by decide) ?_
          refine ee_iload_n 1 dD_isNumber_76 rfl ?_
          refine ee_i2l dD_isNumber_77 ?_
          refine ee_lconst (v := (1 : Int64)) dD_isNumber_78 (by decide) ?_
          refine ee_ldc2 (v := (16 : Int64)) dD_isNumber_79 gw_1340 ?_
          refine ee_callS (as := [.long (Int32.toInt64 l1), .long (1 : Int64), .long (16 : Int64)]) (st := []) dD_isNumber_82 (t_fD_in (Int32.toInt64 l1) (1 : Int64) (16 : Int64) w) my_fD_in.1 (Nat.le_of_ble_eq_true rfl) my_fD_in.2 rfl gw_1320 gw_1321 ⟨Nat.le_of_ble_eq_true rfl, Nat.le_of_ble_eq_true rfl⟩ (Nat.le_of_ble_eq_true rfl) (fun rv82 w82 _ => ?_)
          refine ee_kI (fun v82 => ?_)
          exact ee_zret rfl dD_isNumber_85
        · skip
          refine ee_ite (fun h1_4 => ?_) (fun h1_4 => ?_)
          · refine ee_tabIn (tgt := 86) dD_isNumber_1 (by rw [h1_4]; decide) (by rw [h1_4]; decide) (by rw [h1_4]; rfl) (by decide) ?_
            refine ee_iload_n 1 dD_isNumber_86 rfl ?_
            refine ee_i2l dD_isNumber_87 ?_
            refine ee_lconst (v := (0 : Int64)) dD_isNumber_88 (by decide) ?_
            refine ee_ldc2 (v := (4 : Int64)) dD_isNumber_89 gw_1339 ?_
            refine ee_callS (as := [.long (Int32.toInt64 l1), .long (0 : Int64), .long (4 : Int64)]) (st := []) dD_isNumber_92 (t_fD_in (Int32.toInt64 l1) (0 : Int64) (4 : Int64) w) my_fD_in.1 (Nat.le_of_ble_eq_true rfl) my_fD_in.2 rfl gw_1320 gw_1321 ⟨Nat.le_of_ble_eq_true rfl, Nat.le_of_ble_eq_true rfl⟩ (Nat.le_of_ble_eq_true rfl) (fun rv92 w92 _ => ?_)
            refine ee_kI (fun v92 => ?_)
            exact ee_zret rfl dD_isNumber_95
          · skip
            refine ee_ite (fun h1_5 => ?_) (fun h1_5 => ?_)
            · refine ee_tabIn (tgt := 96) dD_isNumber_1 (by rw [h1_5]; decide) (by rw [h1_5]; decide) (by rw [h1_5]; rfl) (by decide) ?_
              refine ee_iload_n 1 dD_isNumber_96 rfl ?_
              refine ee_i2l dD_isNumber_97 ?_
              refine ee_lconst (v := (1 : Int64)) dD_isNumber_98 (by decide) ?_
              refine ee_ldc2 (v := (1000 : Int64)) dD_isNumber_99 gw_1341 ?_
              refine ee_callS (as := [.long (Int32.toInt64 l1), .long (1 : Int64), .long (1000 : Int64)]) (st := []) dD_isNumber_102 (t_fD_in (Int32.toInt64 l1) (1 : Int64) (1000 : Int64) w) my_fD_in.1 (Nat.le_of_ble_eq_true rfl) my_fD_in.2 rfl gw_1320 gw_1321 ⟨Nat.le_of_ble_eq_true rfl, Nat.le_of_ble_eq_true rfl⟩ (Nat.le_of_ble_eq_true rfl) (fun rv102 w102 _ => ?_)
              refine ee_kI (fun v102 => ?_)
              exact ee_zret rfl dD_isNumber_105
            · skip
              refine ee_ite (fun h1_6 => ?_) (fun h1_6 => ?_)
              · refine ee_tabIn (tgt := 106) dD_isNumber_1 (by rw [h1_6]; decide) (by rw [h1_6]; decide) (by rw [h1_6]; rfl) (by decide) ?_
                refine ee_iload_n 1 dD_isNumber_106 rfl ?_
                refine ee_i2l dD_isNumber_107 ?_
                refine ee_lconst (v := (0 : Int64)) dD_isNumber_108 (by decide) ?_
                refine ee_ldc2 (v := (5 : Int64)) dD_isNumber_109 gw_1342 ?_
                refine ee_callS (as := [.long (Int32.toInt64 l1), .long (0 : Int64), .long (5 : Int64)]) (st := []) dD_isNumber_112 (t_fD_in (Int32.toInt64 l1) (0 : Int64) (5 : Int64) w) my_fD_in.1 (Nat.le_of_ble_eq_true rfl) my_fD_in.2 rfl gw_1320 gw_1321 ⟨Nat.le_of_ble_eq_true rfl, Nat.le_of_ble_eq_true rfl⟩ (Nat.le_of_ble_eq_true rfl) (fun rv112 w112 _ => ?_)
                refine ee_kI (fun v112 => ?_)
                exact ee_zret rfl dD_isNumber_115
              · skip
                refine ee_ite (fun h1_7 => ?_) (fun h1_7 => ?_)
                · refine ee_tabIn (tgt := 116) dD_isNumber_1 (by rw [h1_7]; decide) (by rw [h1_7]; decide) (by rw [h1_7]; rfl) (by decide) ?_
                  refine ee_iload_n 1 dD_isNumber_116 rfl ?_
                  refine ee_i2l dD_isNumber_117 ?_
                  refine ee_ldc2 (v := (2 : Int64)) dD_isNumber_118 gw_1343 ?_
                  refine ee_ldc2 (v := (6 : Int64)) dD_isNumber_121 gw_1344 ?_
                  refine ee_callS (as := [.long (Int32.toInt64 l1), .long (2 : Int64), .long (6 : Int64)]) (st := []) dD_isNumber_124 (t_fD_in (Int32.toInt64 l1) (2 : Int64) (6 : Int64) w) my_fD_in.1 (Nat.le_of_ble_eq_true rfl) my_fD_in.2 rfl gw_1320 gw_1321 ⟨Nat.le_of_ble_eq_true rfl, Nat.le_of_ble_eq_true rfl⟩ (Nat.le_of_ble_eq_true rfl) (fun rv124 w124 _ => ?_)
                  refine ee_kI (fun v124 => ?_)
                  exact ee_zret rfl dD_isNumber_127
                · skip
                  refine ee_ite (fun h1_8 => ?_) (fun h1_8 => ?_)
                  · refine ee_tabIn (tgt := 128) dD_isNumber_1 (by rw [h1_8]; decide) (by rw [h1_8]; decide) (by rw [h1_8]; rfl) (by decide) ?_
                    refine ee_iload_n 1 dD_isNumber_128 rfl ?_
                    refine ee_i2l dD_isNumber_129 ?_
                    refine ee_lconst (v := (0 : Int64)) dD_isNumber_130 (by decide) ?_
                    refine ee_lconst (v := (1 : Int64)) dD_isNumber_131 (by decide) ?_
                    refine ee_callS (as := [.long (Int32.toInt64 l1), .long (0 : Int64), .long (1 : Int64)]) (st := []) dD_isNumber_132 (t_fD_in (Int32.toInt64 l1) (0 : Int64) (1 : Int64) w) my_fD_in.1 (Nat.le_of_ble_eq_true rfl) my_fD_in.2 rfl gw_1320 gw_1321 ⟨Nat.le_of_ble_eq_true rfl, Nat.le_of_ble_eq_true rfl⟩ (Nat.le_of_ble_eq_true rfl) (fun rv132 w132 _ => ?_)
                    refine ee_kI (fun v132 => ?_)
                    exact ee_zret rfl dD_isNumber_135
                  · skip
                    refine ee_ite (fun h1_9 => ?_) (fun h1_9 => ?_)
                    · refine ee_tabIn (tgt := 136) dD_isNumber_1 (by rw [h1_9]; decide) (by rw [h1_9]; decide) (by rw [h1_9]; rfl) (by decide) ?_
                      refine ee_iload_n 1 dD_isNumber_136 rfl ?_
                      refine ee_i2l dD_isNumber_137 ?_
                      refine ee_lconst (v := (0 : Int64)) dD_isNumber_138 (by decide) ?_
                      refine ee_ldc2 (v := (31 : Int64)) dD_isNumber_139 gw_1345 ?_
                      refine ee_callS (as := [.long (Int32.toInt64 l1), .long (0 : Int64), .long (31 : Int64)]) (st := []) dD_isNumber_142 (t_fD_in (Int32.toInt64 l1) (0 : Int64) (31 : Int64) w) my_fD_in.1 (Nat.le_of_ble_eq_true rfl) my_fD_in.2 rfl gw_1320 gw_1321 ⟨Nat.le_of_ble_eq_true rfl, Nat.le_of_ble_eq_true rfl⟩ (Nat.le_of_ble_eq_true rfl) (fun rv142 w142 _ => ?_)
                      refine ee_kI (fun v142 => ?_)
                      exact ee_zret rfl dD_isNumber_145
                    · skip
                      refine ee_tabOut (tgt := 146) dD_isNumber_1 (by have e0 : ¬ Int32.toInt l0 = (0 : Int) := fun h => h1_0 (Int32.toInt_inj.mp (h.trans (show (0 : Int) = (0 : Int32).toInt by decide))); have e1 : ¬ Int32.toInt l0 = (1 : Int) := fun h => h1_1 (Int32.toInt_inj.mp (h.trans (show (1 : Int) = (1 : Int32).toInt by decide))); have e2 : ¬ Int32.toInt l0 = (2 : Int) := fun h => h1_2 (Int32.toInt_inj.mp (h.trans (show (2 : Int) = (2 : Int32).toInt by decide))); have e3 : ¬ Int32.toInt l0 = (3 : Int) := fun h => h1_3 (Int32.toInt_inj.mp (h.trans (show (3 : Int) = (3 : Int32).toInt by decide))); have e4 : ¬ Int32.toInt l0 = (4 : Int) := fun h => h1_4 (Int32.toInt_inj.mp (h.trans (show (4 : Int) = (4 : Int32).toInt by decide))); have e5 : ¬ Int32.toInt l0 = (5 : Int) := fun h => h1_5 (Int32.toInt_inj.mp (h.trans (show (5 : Int) = (5 : Int32).toInt by decide))); have e6 : ¬ Int32.toInt l0 = (6 : Int) := fun h => h1_6 (Int32.toInt_inj.mp (h.trans (show (6 : Int) = (6 : Int32).toInt by decide))); have e7 : ¬ Int32.toInt l0 = (7 : Int) := fun h => h1_7 (Int32.toInt_inj.mp (h.trans (show (7 : Int) = (7 : Int32).toInt by decide))); have e8 : ¬ Int32.toInt l0 = (8 : Int) := fun h => h1_8 (Int32.toInt_inj.mp (h.trans (show (8 : Int) = (8 : Int32).toInt by decide))); have e9 : ¬ Int32.toInt l0 = (9 : Int) := fun h => h1_9 (Int32.toInt_inj.mp (h.trans (show (9 : Int) = (9 : Int32).toInt by decide))); omega) (by decide) ?_
                      refine ee_iload_n 1 dD_isNumber_146 rfl ?_
                      refine ee_i2l dD_isNumber_147 ?_
                      refine ee_lconst (v := (0 : Int64)) dD_isNumber_148 (by decide) ?_
                      refine ee_ldc2 (v := (7 : Int64)) dD_isNumber_149 gw_1346 ?_
                      refine ee_callS (as := [.long (Int32.toInt64 l1), .long (0 : Int64), .long (7 : Int64)]) (st := []) dD_isNumber_152 (t_fD_in (Int32.toInt64 l1) (0 : Int64) (7 : Int64) w) my_fD_in.1 (Nat.le_of_ble_eq_true rfl) my_fD_in.2 rfl gw_1320 gw_1321 ⟨Nat.le_of_ble_eq_true rfl, Nat.le_of_ble_eq_true rfl⟩ (Nat.le_of_ble_eq_true rfl) (fun rv152 w152 _ => ?_)
                      refine ee_kI (fun v152 => ?_)
                      exact ee_zret rfl dD_isNumber_155
def fD_isTooMany_34 (l0 : Nat) (l3 : Int64) (s0 : Int64) (w : PW) : PX := (p_getR w l0 10 7).bind fun v40 => (p_ald w v40 0 (3 : Int32)).bind fun v44 => (p_getR w l0 10 7).bind fun v47 => (p_ald w v47 0 (4 : Int32)).bind fun v51 => p_call (fD_tilesOf l3 s0 (Int32.toInt64 v44) (Int32.toInt64 v51) w) <| p_kJ fun v53 w53 => if (lg_cmp v53 (24 : Int64)) ≤ 0 then (p_retZ (0 : Int32) w53) else (p_retZ (1 : Int32) w53)
set_option maxRecDepth 20000 in
set_option maxHeartbeats 2000000 in
theorem t_fD_isTooMany_34 {Γ : PG} : ∀ (l0 : Nat) (l3 : Int64) (s0 : Int64) (w : PW), EE Γ MD_isTooMany 34 [(0, .ref l0), (3, .long l3)] [.long s0] w (fD_isTooMany_34 l0 l3 s0 w) := by
  intro l0 l3 s0 w
  unfold fD_isTooMany_34
  refine ee_lstore (lv2 := [(5, .long s0), (0, .ref l0), (3, .long l3)]) dD_isTooMany_34 (Nat.le_of_ble_eq_true rfl) rfl ?_
  refine ee_lload_n 2 dD_isTooMany_36 rfl ?_
  refine ee_lload 0 dD_isTooMany_37 rfl ?_
  refine ee_aload_n 1 dD_isTooMany_39 rfl ?_
  refine ee_getR dD_isTooMany_40 lfD_23 (fun v40 _ => ?_)
  refine ee_iconst (v := (3 : Int32)) dD_isTooMany_43 (by decide) ?_
  refine ee_iald (t := 0) dD_isTooMany_44 rfl (fun v44 _ => ?_)
  refine ee_i2l dD_isTooMany_45 ?_
  refine ee_aload_n 1 dD_isTooMany_46 rfl ?_
  refine ee_getR dD_isTooMany_47 lfD_23 (fun v47 _ => ?_)
  refine ee_iconst (v := (4 : Int32)) dD_isTooMany_50 (by decide) ?_
  refine ee_iald (t := 0) dD_isTooMany_51 rfl (fun v51 _ => ?_)
  refine ee_i2l dD_isTooMany_52 ?_
  refine ee_callS (as := [.long l3, .long s0, .long (Int32.toInt64 v44), .long (Int32.toInt64 v51)]) (st := []) dD_isTooMany_53 (t_fD_tilesOf l3 s0 (Int32.toInt64 v44) (Int32.toInt64 v51) w) my_fD_tilesOf.1 (Nat.le_of_ble_eq_true rfl) my_fD_tilesOf.2 rfl gw_1328 gw_1329 ⟨Nat.le_of_ble_eq_true rfl, Nat.le_of_ble_eq_true rfl⟩ (Nat.le_of_ble_eq_true rfl) (fun rv53 w53 _ => ?_)
  refine ee_kJ (fun v53 => ?_)
  refine ee_ldc2 (v := (24 : Int64)) dD_isTooMany_56 gw_1351 ?_
  refine ee_lcmp dD_isTooMany_59 ?_
  refine ee_if_le (tgt := 67) dD_isTooMany_60 (by decide) (fun h60 => ?_) (fun h60 => ?_)
  · refine ee_iconst (v := (0 : Int32)) dD_isTooMany_67 (by decide) ?_
    exact ee_zret rfl dD_isTooMany_68
  · refine ee_iconst (v := (1 : Int32)) dD_isTooMany_63 (by decide) ?_
    refine ee_goto (tgt := 68) dD_isTooMany_64 (by decide) ?_
    exact ee_zret rfl dD_isTooMany_68
def fD_isTooMany_16 (l0 : Nat) (l1 : Int32) (l2 : Int32) (s0 : Int64) (w : PW) : PX := if ¬ l1 = (1 : Int32) then ((p_getR w l0 10 7).bind fun v28 => (p_ald w v28 0 (1 : Int32)).bind fun v32 => fD_isTooMany_34 l0 s0 (Int32.toInt64 v32) w) else (fD_isTooMany_34 l0 s0 (Int32.toInt64 l2) w)
set_option maxRecDepth 20000 in
set_option maxHeartbeats 2000000 in
theorem t_fD_isTooMany_16 {Γ : PG} : ∀ (l0 : Nat) (l1 : Int32) (l2 : Int32) (s0 : Int64) (w : PW), EE Γ MD_isTooMany 16 [(0, .ref l0), (1, .int l1), (2, .int l2)] [.long s0] w (fD_isTooMany_16 l0 l1 l2 s0 w) := by
  intro l0 l1 l2 s0 w
  unfold fD_isTooMany_16
  refine ee_lstore_n (lv2 := [(3, .long s0), (0, .ref l0), (1, .int l1), (2, .int l2)]) dD_isTooMany_16 (Nat.le_of_ble_eq_true rfl) rfl ?_
  refine ee_iload_n 2 dD_isTooMany_17 rfl ?_
  refine ee_iconst (v := (1 : Int32)) dD_isTooMany_18 (by decide) ?_
  refine ee_icmp_ne (tgt := 27) dD_isTooMany_19 (by decide) (fun h19 => ?_) (fun h19 => ?_)
  · refine ee_aload_n 1 dD_isTooMany_27 rfl ?_
    refine ee_getR dD_isTooMany_28 lfD_23 (fun v28 _ => ?_)
    refine ee_iconst (v := (1 : Int32)) dD_isTooMany_31 (by decide) ?_
    refine ee_iald (t := 0) dD_isTooMany_32 rfl (fun v32 _ => ?_)
    refine ee_i2l dD_isTooMany_33 ?_
    refine ee_pick [1, 0] rfl ?_
    exact t_fD_isTooMany_34 _ _ _ w
  · refine ee_iload_n 3 dD_isTooMany_22 rfl ?_
    refine ee_i2l dD_isTooMany_23 ?_
    refine ee_goto (tgt := 34) dD_isTooMany_24 (by decide) ?_
    refine ee_pick [1, 0] rfl ?_
    exact t_fD_isTooMany_34 _ _ _ w
def fD_isTooMany (l0 : Nat) (l1 : Int32) (l2 : Int32) (w : PW) : PX := if ¬ l1 = 0 then ((p_getR w l0 10 7).bind fun v10 => (p_ald w v10 0 (0 : Int32)).bind fun v14 => fD_isTooMany_16 l0 l1 l2 (Int32.toInt64 v14) w) else (fD_isTooMany_16 l0 l1 l2 (Int32.toInt64 l2) w)
set_option maxRecDepth 20000 in
set_option maxHeartbeats 2000000 in
theorem t_fD_isTooMany {Γ : PG} : ∀ (l0 : Nat) (l1 : Int32) (l2 : Int32) (w : PW), EE Γ MD_isTooMany 0 (lv_args 0 [.ref l0, .int l1, .int l2]) [] w (fD_isTooMany l0 l1 l2 w) := by
  intro l0 l1 l2 w
  unfold fD_isTooMany
  show EE Γ MD_isTooMany 0 [(0, .ref l0), (1, .int l1), (2, .int l2)] [] w _
  refine ee_iload_n 1 dD_isTooMany_0 rfl ?_
  refine ee_if_ne (tgt := 9) dD_isTooMany_1 (by decide) (fun h1 => ?_) (fun h1 => ?_)
  · refine ee_aload_n 0 dD_isTooMany_9 rfl ?_
    refine ee_getR dD_isTooMany_10 lfD_23 (fun v10 _ => ?_)
    refine ee_iconst (v := (0 : Int32)) dD_isTooMany_13 (by decide) ?_
    refine ee_iald (t := 0) dD_isTooMany_14 rfl (fun v14 _ => ?_)
    refine ee_i2l dD_isTooMany_15 ?_
    exact t_fD_isTooMany_16 _ _ _ _ w
  · refine ee_iload_n 2 dD_isTooMany_4 rfl ?_
    refine ee_i2l dD_isTooMany_5 ?_
    refine ee_goto (tgt := 16) dD_isTooMany_6 (by decide) ?_
    exact t_fD_isTooMany_16 _ _ _ _ w
def fD_make_68 (l0 : Nat) (l1 : Int32) (l4 : Int32) (w : PW) : PX := p_call (fD_isStep l1 w) <| p_kI fun v69 w69 => if v69 = 0 then ((p_getR w69 l0 10 4).bind fun v87 => (p_ast w69 v87 2 l4 (vp_nar .boolean (1 : Int32))).bind fun w93 => some (.inl none, w93)) else ((p_getR w69 l0 10 5).bind fun v76 => (p_ast w69 v76 2 l4 (vp_nar .boolean (1 : Int32))).bind fun w82 => some (.inl none, w82))
set_option maxRecDepth 20000 in
set_option maxHeartbeats 2000000 in
theorem t_fD_make_68 {Γ : PG} : ∀ (l0 : Nat) (l1 : Int32) (l4 : Int32) (w : PW), EE Γ MD_make 68 [(0, .ref l0), (1, .int l1), (4, .int l4)] [] w (fD_make_68 l0 l1 l4 w) := by
  intro l0 l1 l4 w
  unfold fD_make_68
  refine ee_iload_n 1 dD_make_68 rfl ?_
  refine ee_callS (as := [.int l1]) (st := []) dD_make_69 (t_fD_isStep l1 w) my_fD_isStep.1 (Nat.le_of_ble_eq_true rfl) my_fD_isStep.2 rfl gw_1363 gw_1364 ⟨Nat.le_of_ble_eq_true rfl, Nat.le_of_ble_eq_true rfl⟩ (Nat.le_of_ble_eq_true rfl) (fun rv69 w69 _ => ?_)
  refine ee_kI (fun v69 => ?_)
  refine ee_if_eq (tgt := 86) dD_make_72 (by decide) (fun h72 => ?_) (fun h72 => ?_)
  · refine ee_aload_n 0 dD_make_86 rfl ?_
    refine ee_getR dD_make_87 lfD_13 (fun v87 _ => ?_)
    refine ee_iload 2 dD_make_90 rfl ?_
    refine ee_iconst (v := (1 : Int32)) dD_make_92 (by decide) ?_
    refine ee_zast (t := 2) dD_make_93 rfl (fun w93 _ => ?_)
    exact ee_vret rfl dD_make_94
  · refine ee_aload_n 0 dD_make_75 rfl ?_
    refine ee_getR dD_make_76 lfD_17 (fun v76 _ => ?_)
    refine ee_iload 2 dD_make_79 rfl ?_
    refine ee_iconst (v := (1 : Int32)) dD_make_81 (by decide) ?_
    refine ee_zast (t := 2) dD_make_82 rfl (fun w82 _ => ?_)
    refine ee_goto (tgt := 94) dD_make_83 (by decide) ?_
    exact ee_vret rfl dD_make_94
def fD_make_20 : Nat → Nat → Int32 → Int32 → Int32 → Int32 → PW → PX
  | 0, _, _, _, _, _, _ => none
  | n9 + 1, l0, l1, l4, l5, l6, w => if (10 : Int32) < l6 then (fD_make_68 l0 l1 l4 w) else (if l5 = l4 then (fD_make_68 l0 l1 l4 w) else (p_call (fD_isStep l6 w) <| p_kI fun v36 w36 => p_call (fD_isStep l1 w36) <| p_kI fun v40 w40 => if ¬ v36 = v40 then (p_let (l6 + (1 : Int32)) fun (l6_62 : Int32) => (fD_make_20 n9) l0 l1 l4 l5 l6_62 w40) else ((p_obj w40 l0 10).bind fun _ => p_call (fD_get l0 l5 l6 w40) <| p_kI fun v56 w56 => (p_obj w56 l0 10).bind fun _ => p_call (fD_put l0 l4 l6 v56 w56) <| p_kV fun w59 => p_let (l6 + (1 : Int32)) fun (l6_62 : Int32) => (fD_make_20 n9) l0 l1 l4 l5 l6_62 w59)))
set_option maxRecDepth 20000 in
set_option maxHeartbeats 2000000 in
theorem t_fD_make_20 {Γ : PG} : ∀ (n9 : Nat) (l0 : Nat) (l1 : Int32) (l4 : Int32) (l5 : Int32) (l6 : Int32) (w : PW), EE Γ MD_make 20 [(0, .ref l0), (1, .int l1), (4, .int l4), (5, .int l5), (6, .int l6)] [] w (fD_make_20 n9 l0 l1 l4 l5 l6 w) := by
  intro n9
  induction n9 with
  | zero => intro l0 l1 l4 l5 l6 w; exact ee_none
  | succ n9 ih =>
    intro l0 l1 l4 l5 l6 w
    unfold fD_make_20
    refine ee_iload 4 dD_make_20 rfl ?_
    refine ee_bipush (v := (10 : Int32)) dD_make_22 (by decide) ?_
    refine ee_icmp_gt (tgt := 68) dD_make_24 (by decide) (fun h24 => ?_) (fun h24 => ?_)
    · refine ee_pick [0, 1, 2] rfl ?_
      exact t_fD_make_68 _ _ _ w
    · refine ee_iload 3 dD_make_27 rfl ?_
      refine ee_iload 2 dD_make_29 rfl ?_
      refine ee_icmp_eq (tgt := 68) dD_make_31 (by decide) (fun h31 => ?_) (fun h31 => ?_)
      · refine ee_pick [0, 1, 2] rfl ?_
        exact t_fD_make_68 _ _ _ w
      · refine ee_iload 4 dD_make_34 rfl ?_
        refine ee_callS (as := [.int l6]) (st := []) dD_make_36 (t_fD_isStep l6 w) my_fD_isStep.1 (Nat.le_of_ble_eq_true rfl) my_fD_isStep.2 rfl gw_1363 gw_1364 ⟨Nat.le_of_ble_eq_true rfl, Nat.le_of_ble_eq_true rfl⟩ (Nat.le_of_ble_eq_true rfl) (fun rv36 w36 _ => ?_)
        refine ee_kI (fun v36 => ?_)
        refine ee_iload_n 1 dD_make_39 rfl ?_
        refine ee_callS (as := [.int l1]) (st := [.int v36]) dD_make_40 (t_fD_isStep l1 w36) my_fD_isStep.1 (Nat.le_of_ble_eq_true rfl) my_fD_isStep.2 rfl gw_1363 gw_1364 ⟨Nat.le_of_ble_eq_true rfl, Nat.le_of_ble_eq_true rfl⟩ (Nat.le_of_ble_eq_true rfl) (fun rv40 w40 _ => ?_)
        refine ee_kI (fun v40 => ?_)
        refine ee_icmp_ne (tgt := 62) dD_make_43 (by decide) (fun h43 => ?_) (fun h43 => ?_)
        · refine ee_iinc 4 dD_make_62 rfl (e := (1 : Int32)) (by decide) (Nat.le_of_ble_eq_true rfl) (fun l6_62 _ => ?_)
          refine ee_lv (lv2 := [(6, .int l6_62), (0, .ref l0), (1, .int l1), (4, .int l4), (5, .int l5)]) rfl ?_
          refine ee_goto (tgt := 20) dD_make_65 (by decide) ?_
          refine ee_pick [1, 2, 3, 4, 0] rfl ?_
          exact ih _ _ _ _ _ w40
        · refine ee_aload_n 0 dD_make_46 rfl ?_
          refine ee_iload 2 dD_make_47 rfl ?_
          refine ee_iload 4 dD_make_49 rfl ?_
          refine ee_aload_n 0 dD_make_51 rfl ?_
          refine ee_iload 3 dD_make_52 rfl ?_
          refine ee_iload 4 dD_make_54 rfl ?_
          refine ee_bind (fun _ ho56 => ?_)
          refine ee_callV (as := [.int l5, .int l6]) (st := [.int l6, .int l4, .ref l0]) dD_make_56 (t_fD_get l0 l5 l6 w40) my_fD_get.1 (Nat.le_of_ble_eq_true rfl) my_fD_get.2 rfl cf_10.1 rfl (p_obj_eq.mp ho56) gw_1366 gw_1368 gw_16 ⟨Nat.le_of_ble_eq_true rfl, Nat.le_of_ble_eq_true rfl⟩ (Nat.le_of_ble_eq_true rfl) (fun rv56 w56 _ => ?_)
          refine ee_kI (fun v56 => ?_)
          refine ee_bind (fun _ ho59 => ?_)
          refine ee_callV (as := [.int l4, .int l6, .int v56]) (st := []) dD_make_59 (t_fD_put l0 l4 l6 v56 w56) my_fD_put.1 (Nat.le_of_ble_eq_true rfl) my_fD_put.2 rfl cf_10.1 rfl (p_obj_eq.mp ho59) gw_1170 gw_1172 gw_9 ⟨Nat.le_of_ble_eq_true rfl, Nat.le_of_ble_eq_true rfl⟩ (Nat.le_of_ble_eq_true rfl) (fun rv59 w59 _ => ?_)
          refine ee_kV ?_
          refine ee_iinc 4 dD_make_62 rfl (e := (1 : Int32)) (by decide) (Nat.le_of_ble_eq_true rfl) (fun l6_62 _ => ?_)
          refine ee_lv (lv2 := [(6, .int l6_62), (0, .ref l0), (1, .int l1), (4, .int l4), (5, .int l5)]) rfl ?_
          refine ee_goto (tgt := 20) dD_make_65 (by decide) ?_
          refine ee_pick [1, 2, 3, 4, 0] rfl ?_
          exact ih _ _ _ _ _ w59
def fD_make (l0 : Nat) (l1 : Int32) (l2 : Int32) (l3 : Int32) (w : PW) : PX := p_call (fD_placeOf l2 l3 w) <| p_kI fun v2 w2 => (p_obj w2 l0 10).bind fun _ => p_call (fD_force l0 (0 : Int32) l1 l2 l3 w2) <| p_kI fun v12 w12 => fD_make_20 FUEL l0 l1 v2 v12 (4 : Int32) w12
set_option maxRecDepth 20000 in
set_option maxHeartbeats 2000000 in
theorem t_fD_make {Γ : PG} : ∀ (l0 : Nat) (l1 : Int32) (l2 : Int32) (l3 : Int32) (w : PW), EE Γ MD_make 0 (lv_args 0 [.ref l0, .int l1, .int l2, .int l3]) [] w (fD_make l0 l1 l2 l3 w) := by
  intro l0 l1 l2 l3 w
  unfold fD_make
  show EE Γ MD_make 0 [(0, .ref l0), (1, .int l1), (2, .int l2), (3, .int l3)] [] w _
  refine ee_iload_n 2 dD_make_0 rfl ?_
  refine ee_iload_n 3 dD_make_1 rfl ?_
  refine ee_callS (as := [.int l2, .int l3]) (st := []) dD_make_2 (t_fD_placeOf l2 l3 w) my_fD_placeOf.1 (Nat.le_of_ble_eq_true rfl) my_fD_placeOf.2 rfl gw_1356 gw_1357 ⟨Nat.le_of_ble_eq_true rfl, Nat.le_of_ble_eq_true rfl⟩ (Nat.le_of_ble_eq_true rfl) (fun rv2 w2 _ => ?_)
  refine ee_kI (fun v2 => ?_)
  refine ee_istore (lv2 := [(4, .int v2), (0, .ref l0), (1, .int l1), (2, .int l2), (3, .int l3)]) dD_make_5 (Nat.le_of_ble_eq_true rfl) rfl ?_
  refine ee_aload_n 1 dD_make_7 rfl ?_
  refine ee_iconst (v := (0 : Int32)) dD_make_8 (by decide) ?_
  refine ee_iload_n 2 dD_make_9 rfl ?_
  refine ee_iload_n 3 dD_make_10 rfl ?_
  refine ee_iload_n 4 dD_make_11 rfl ?_
  refine ee_bind (fun _ ho12 => ?_)
  refine ee_callV (as := [.int (0 : Int32), .int l1, .int l2, .int l3]) (st := []) dD_make_12 (t_fD_force l0 (0 : Int32) l1 l2 l3 w2) my_fD_force.1 (Nat.le_of_ble_eq_true rfl) my_fD_force.2 rfl cf_10.1 rfl (p_obj_eq.mp ho12) gw_1352 gw_1354 gw_14 ⟨Nat.le_of_ble_eq_true rfl, Nat.le_of_ble_eq_true rfl⟩ (Nat.le_of_ble_eq_true rfl) (fun rv12 w12 _ => ?_)
  refine ee_kI (fun v12 => ?_)
  refine ee_istore (lv2 := [(5, .int v12), (4, .int v2), (0, .ref l0), (1, .int l1), (2, .int l2), (3, .int l3)]) dD_make_15 (Nat.le_of_ble_eq_true rfl) rfl ?_
  refine ee_iconst (v := (4 : Int32)) dD_make_17 (by decide) ?_
  refine ee_istore (lv2 := [(6, .int (4 : Int32)), (5, .int v12), (4, .int v2), (0, .ref l0), (1, .int l1), (2, .int l2), (3, .int l3)]) dD_make_18 (Nat.le_of_ble_eq_true rfl) rfl ?_
  refine ee_pick [3, 4, 2, 1, 0] rfl ?_
  exact t_fD_make_20 FUEL _ _ _ _ _ w12
def fD_set_121 : Nat → Nat → Int32 → Int32 → Int32 → Int32 → PW → PX
  | 0, _, _, _, _, _, _ => none
  | n9 + 1, l0, l3, l4, l5, l6, w => if (4 : Int32) ≤ l6 then (some (.inl (some (.int l5)), w)) else ((p_getR w l0 10 6).bind fun v128 => if l3 < 0 then ((p_ast w v128 0 l6 l4).bind fun w155 => p_let (l6 + (1 : Int32)) fun (l6_156 : Int32) => (fD_set_121 n9) l0 l3 l4 l5 l6_156 w155) else (if ¬ l6 = l3 then ((p_getR w l0 10 6).bind fun v149 => (p_ald w v149 0 l6).bind fun v154 => (p_ast w v128 0 l6 v154).bind fun w155 => p_let (l6 + (1 : Int32)) fun (l6_156 : Int32) => (fD_set_121 n9) l0 l3 l4 l5 l6_156 w155) else ((p_ast w v128 0 l6 l4).bind fun w155 => p_let (l6 + (1 : Int32)) fun (l6_156 : Int32) => (fD_set_121 n9) l0 l3 l4 l5 l6_156 w155)))
set_option maxRecDepth 20000 in
set_option maxHeartbeats 2000000 in
theorem t_fD_set_121 {Γ : PG} : ∀ (n9 : Nat) (l0 : Nat) (l3 : Int32) (l4 : Int32) (l5 : Int32) (l6 : Int32) (w : PW), EE Γ MD_set 121 [(0, .ref l0), (3, .int l3), (4, .int l4), (5, .int l5), (6, .int l6)] [] w (fD_set_121 n9 l0 l3 l4 l5 l6 w) := by
  intro n9
  induction n9 with
  | zero => intro l0 l3 l4 l5 l6 w; exact ee_none
  | succ n9 ih =>
    intro l0 l3 l4 l5 l6 w
    unfold fD_set_121
    refine ee_iload 4 dD_set_121 rfl ?_
    refine ee_iconst (v := (4 : Int32)) dD_set_123 (by decide) ?_
    refine ee_icmp_ge (tgt := 162) dD_set_124 (by decide) (fun h124 => ?_) (fun h124 => ?_)
    · refine ee_iload 3 dD_set_162 rfl ?_
      exact ee_iret rfl dD_set_164
    · refine ee_aload_n 0 dD_set_127 rfl ?_
      refine ee_getR dD_set_128 lfD_20 (fun v128 _ => ?_)
      refine ee_iload 4 dD_set_131 rfl ?_
      refine ee_iload_n 1 dD_set_133 rfl ?_
      refine ee_if_lt (tgt := 143) dD_set_134 (by decide) (fun h134 => ?_) (fun h134 => ?_)
      · refine ee_iload 2 dD_set_143 rfl ?_
        refine ee_goto (tgt := 155) dD_set_145 (by decide) ?_
        refine ee_iast (t := 0) dD_set_155 rfl (fun w155 _ => ?_)
        refine ee_iinc 4 dD_set_156 rfl (e := (1 : Int32)) (by decide) (Nat.le_of_ble_eq_true rfl) (fun l6_156 _ => ?_)
        refine ee_lv (lv2 := [(6, .int l6_156), (0, .ref l0), (3, .int l3), (4, .int l4), (5, .int l5)]) rfl ?_
        refine ee_goto (tgt := 121) dD_set_159 (by decide) ?_
        refine ee_pick [1, 2, 3, 4, 0] rfl ?_
        exact ih _ _ _ _ _ w155
      · refine ee_iload 4 dD_set_137 rfl ?_
        refine ee_iload_n 1 dD_set_139 rfl ?_
        refine ee_icmp_ne (tgt := 148) dD_set_140 (by decide) (fun h140 => ?_) (fun h140 => ?_)
        · refine ee_aload_n 0 dD_set_148 rfl ?_
          refine ee_getR dD_set_149 lfD_20 (fun v149 _ => ?_)
          refine ee_iload 4 dD_set_152 rfl ?_
          refine ee_iald (t := 0) dD_set_154 rfl (fun v154 _ => ?_)
          refine ee_iast (t := 0) dD_set_155 rfl (fun w155 _ => ?_)
          refine ee_iinc 4 dD_set_156 rfl (e := (1 : Int32)) (by decide) (Nat.le_of_ble_eq_true rfl) (fun l6_156 _ => ?_)
          refine ee_lv (lv2 := [(6, .int l6_156), (0, .ref l0), (3, .int l3), (4, .int l4), (5, .int l5)]) rfl ?_
          refine ee_goto (tgt := 121) dD_set_159 (by decide) ?_
          refine ee_pick [1, 2, 3, 4, 0] rfl ?_
          exact ih _ _ _ _ _ w155
        · refine ee_iload 2 dD_set_143 rfl ?_
          refine ee_goto (tgt := 155) dD_set_145 (by decide) ?_
          refine ee_iast (t := 0) dD_set_155 rfl (fun w155 _ => ?_)
          refine ee_iinc 4 dD_set_156 rfl (e := (1 : Int32)) (by decide) (Nat.le_of_ble_eq_true rfl) (fun l6_156 _ => ?_)
          refine ee_lv (lv2 := [(6, .int l6_156), (0, .ref l0), (3, .int l3), (4, .int l4), (5, .int l5)]) rfl ?_
          refine ee_goto (tgt := 121) dD_set_159 (by decide) ?_
          refine ee_pick [1, 2, 3, 4, 0] rfl ?_
          exact ih _ _ _ _ _ w155
def fD_set_115 (l0 : Nat) (l3 : Int32) (l4 : Int32) (s0 : Int32) (s1 : Nat) (w : PW) : PX := (p_ald w s1 0 s0).bind fun v115 => fD_set_121 FUEL l0 l3 l4 v115 (0 : Int32) w
set_option maxRecDepth 20000 in
set_option maxHeartbeats 2000000 in
theorem t_fD_set_115 {Γ : PG} : ∀ (l0 : Nat) (l3 : Int32) (l4 : Int32) (s0 : Int32) (s1 : Nat) (w : PW), EE Γ MD_set 115 [(0, .ref l0), (3, .int l3), (4, .int l4)] [.int s0, .ref s1] w (fD_set_115 l0 l3 l4 s0 s1 w) := by
  intro l0 l3 l4 s0 s1 w
  unfold fD_set_115
  refine ee_iald (t := 0) dD_set_115 rfl (fun v115 _ => ?_)
  refine ee_istore (lv2 := [(5, .int v115), (0, .ref l0), (3, .int l3), (4, .int l4)]) dD_set_116 (Nat.le_of_ble_eq_true rfl) rfl ?_
  refine ee_iconst (v := (0 : Int32)) dD_set_118 (by decide) ?_
  refine ee_istore (lv2 := [(6, .int (0 : Int32)), (5, .int v115), (0, .ref l0), (3, .int l3), (4, .int l4)]) dD_set_119 (Nat.le_of_ble_eq_true rfl) rfl ?_
  refine ee_pick [2, 3, 4, 1, 0] rfl ?_
  exact t_fD_set_121 FUEL _ _ _ _ _ w
def fD_set_61 (l0 : Nat) (l1 : Int32) (l2 : Int32) (l3 : Int32) (l4 : Int32) (s0 : Int32) (s1 : Nat) (w : PW) : PX := (p_put w s1 10 0 (.int s0)).bind fun w61 => (p_getI w61 l0 10 0).bind fun v65 => if v65 ≤ 0 then (if (3 : Int32) ≤ l1 then (if ¬ l1 = (3 : Int32) then ((p_obj w61 l0 10).bind fun _ => p_call (fD_force l0 (0 : Int32) l1 l2 l3 w61) <| p_kI fun v171 w171 => (p_obj w171 l0 10).bind fun _ => p_call (fD_get l0 v171 l1 w171) <| p_kI fun v175 w175 => (p_obj w175 l0 10).bind fun _ => p_call (fD_make l0 l1 l2 l3 w175) <| p_kV fun w184 => p_call (fD_placeOf l2 l3 w184) <| p_kI fun v190 w190 => (p_obj w190 l0 10).bind fun _ => p_call (fD_put l0 v190 l1 l4 w190) <| p_kV fun w196 => some (.inl (some (.int v175)), w196)) else ((p_getR w61 l0 10 6).bind fun v103 => if 0 ≤ l3 then (fD_set_115 l0 l3 l4 l3 v103 w61) else (fD_set_115 l0 l3 l4 (0 : Int32) v103 w61))) else ((p_getR w61 l0 10 7).bind fun v79 => (p_ald w61 v79 0 l1).bind fun v83 => (p_getR w61 l0 10 7).bind fun v87 => (p_ast w61 v87 0 l1 l4).bind fun w93 => some (.inl (some (.int v83)), w93))) else (some (.inl (some (.int (0 : Int32))), w61))
set_option maxRecDepth 20000 in
set_option maxHeartbeats 2000000 in
theorem t_fD_set_61 {Γ : PG} : ∀ (l0 : Nat) (l1 : Int32) (l2 : Int32) (l3 : Int32) (l4 : Int32) (s0 : Int32) (s1 : Nat) (w : PW), EE Γ MD_set 61 [(0, .ref l0), (1, .int l1), (2, .int l2), (3, .int l3), (4, .int l4)] [.int s0, .ref s1] w (fD_set_61 l0 l1 l2 l3 l4 s0 s1 w) := by
  intro l0 l1 l2 l3 l4 s0 s1 w
  unfold fD_set_61
  refine ee_put dD_set_61 lpD_110 (ee_nI _) (fun w61 _ => ?_)
  refine ee_aload_n 0 dD_set_64 rfl ?_
  refine ee_getI dD_set_65 lfD_110 (fun v65 _ => ?_)
  refine ee_if_le (tgt := 73) dD_set_68 (by decide) (fun h68 => ?_) (fun h68 => ?_)
  · refine ee_iload_n 1 dD_set_73 rfl ?_
    refine ee_iconst (v := (3 : Int32)) dD_set_74 (by decide) ?_
    refine ee_icmp_ge (tgt := 97) dD_set_75 (by decide) (fun h75 => ?_) (fun h75 => ?_)
    · refine ee_iload_n 1 dD_set_97 rfl ?_
      refine ee_iconst (v := (3 : Int32)) dD_set_98 (by decide) ?_
      refine ee_icmp_ne (tgt := 165) dD_set_99 (by decide) (fun h99 => ?_) (fun h99 => ?_)
      · refine ee_aload_n 0 dD_set_165 rfl ?_
        refine ee_aload_n 0 dD_set_166 rfl ?_
        refine ee_iconst (v := (0 : Int32)) dD_set_167 (by decide) ?_
        refine ee_iload_n 1 dD_set_168 rfl ?_
        refine ee_iload_n 2 dD_set_169 rfl ?_
        refine ee_iload_n 3 dD_set_170 rfl ?_
        refine ee_bind (fun _ ho171 => ?_)
        refine ee_callV (as := [.int (0 : Int32), .int l1, .int l2, .int l3]) (st := [.ref l0]) dD_set_171 (t_fD_force l0 (0 : Int32) l1 l2 l3 w61) my_fD_force.1 (Nat.le_of_ble_eq_true rfl) my_fD_force.2 rfl cf_10.1 rfl (p_obj_eq.mp ho171) gw_1352 gw_1354 gw_14 ⟨Nat.le_of_ble_eq_true rfl, Nat.le_of_ble_eq_true rfl⟩ (Nat.le_of_ble_eq_true rfl) (fun rv171 w171 _ => ?_)
        refine ee_kI (fun v171 => ?_)
        refine ee_iload_n 1 dD_set_174 rfl ?_
        refine ee_bind (fun _ ho175 => ?_)
        refine ee_callV (as := [.int v171, .int l1]) (st := []) dD_set_175 (t_fD_get l0 v171 l1 w171) my_fD_get.1 (Nat.le_of_ble_eq_true rfl) my_fD_get.2 rfl cf_10.1 rfl (p_obj_eq.mp ho175) gw_1366 gw_1368 gw_16 ⟨Nat.le_of_ble_eq_true rfl, Nat.le_of_ble_eq_true rfl⟩ (Nat.le_of_ble_eq_true rfl) (fun rv175 w175 _ => ?_)
        refine ee_kI (fun v175 => ?_)
        refine ee_istore (lv2 := [(5, .int v175), (0, .ref l0), (1, .int l1), (2, .int l2), (3, .int l3), (4, .int l4)]) dD_set_178 (Nat.le_of_ble_eq_true rfl) rfl ?_
        refine ee_aload_n 1 dD_set_180 rfl ?_
        refine ee_iload_n 2 dD_set_181 rfl ?_
        refine ee_iload_n 3 dD_set_182 rfl ?_
        refine ee_iload_n 4 dD_set_183 rfl ?_
        refine ee_bind (fun _ ho184 => ?_)
        refine ee_callV (as := [.int l1, .int l2, .int l3]) (st := []) dD_set_184 (t_fD_make l0 l1 l2 l3 w175) my_fD_make.1 (Nat.le_of_ble_eq_true rfl) my_fD_make.2 rfl cf_10.1 rfl (p_obj_eq.mp ho184) gw_1370 gw_1372 gw_17 ⟨Nat.le_of_ble_eq_true rfl, Nat.le_of_ble_eq_true rfl⟩ (Nat.le_of_ble_eq_true rfl) (fun rv184 w184 _ => ?_)
        refine ee_kV ?_
        refine ee_aload_n 1 dD_set_187 rfl ?_
        refine ee_iload_n 3 dD_set_188 rfl ?_
        refine ee_iload_n 4 dD_set_189 rfl ?_
        refine ee_callS (as := [.int l2, .int l3]) (st := [.ref l0]) dD_set_190 (t_fD_placeOf l2 l3 w184) my_fD_placeOf.1 (Nat.le_of_ble_eq_true rfl) my_fD_placeOf.2 rfl gw_1356 gw_1357 ⟨Nat.le_of_ble_eq_true rfl, Nat.le_of_ble_eq_true rfl⟩ (Nat.le_of_ble_eq_true rfl) (fun rv190 w190 _ => ?_)
        refine ee_kI (fun v190 => ?_)
        refine ee_iload_n 2 dD_set_193 rfl ?_
        refine ee_iload 5 dD_set_194 rfl ?_
        refine ee_bind (fun _ ho196 => ?_)
        refine ee_callV (as := [.int v190, .int l1, .int l4]) (st := []) dD_set_196 (t_fD_put l0 v190 l1 l4 w190) my_fD_put.1 (Nat.le_of_ble_eq_true rfl) my_fD_put.2 rfl cf_10.1 rfl (p_obj_eq.mp ho196) gw_1170 gw_1172 gw_9 ⟨Nat.le_of_ble_eq_true rfl, Nat.le_of_ble_eq_true rfl⟩ (Nat.le_of_ble_eq_true rfl) (fun rv196 w196 _ => ?_)
        refine ee_kV ?_
        refine ee_iload 0 dD_set_199 rfl ?_
        exact ee_iret rfl dD_set_201
      · refine ee_aload_n 0 dD_set_102 rfl ?_
        refine ee_getR dD_set_103 lfD_20 (fun v103 _ => ?_)
        refine ee_iload_n 3 dD_set_106 rfl ?_
        refine ee_if_ge (tgt := 114) dD_set_107 (by decide) (fun h107 => ?_) (fun h107 => ?_)
        · refine ee_iload_n 3 dD_set_114 rfl ?_
          refine ee_pick [0, 3, 4] rfl ?_
          exact t_fD_set_115 _ _ _ _ _ w61
        · refine ee_iconst (v := (0 : Int32)) dD_set_110 (by decide) ?_
          refine ee_goto (tgt := 115) dD_set_111 (by decide) ?_
          refine ee_pick [0, 3, 4] rfl ?_
          exact t_fD_set_115 _ _ _ _ _ w61
    · refine ee_aload_n 0 dD_set_78 rfl ?_
      refine ee_getR dD_set_79 lfD_23 (fun v79 _ => ?_)
      refine ee_iload_n 1 dD_set_82 rfl ?_
      refine ee_iald (t := 0) dD_set_83 rfl (fun v83 _ => ?_)
      refine ee_istore (lv2 := [(5, .int v83), (0, .ref l0), (1, .int l1), (2, .int l2), (3, .int l3), (4, .int l4)]) dD_set_84 (Nat.le_of_ble_eq_true rfl) rfl ?_
      refine ee_aload_n 1 dD_set_86 rfl ?_
      refine ee_getR dD_set_87 lfD_23 (fun v87 _ => ?_)
      refine ee_iload_n 2 dD_set_90 rfl ?_
      refine ee_iload 5 dD_set_91 rfl ?_
      refine ee_iast (t := 0) dD_set_93 rfl (fun w93 _ => ?_)
      refine ee_iload 0 dD_set_94 rfl ?_
      exact ee_iret rfl dD_set_96
  · refine ee_iconst (v := (0 : Int32)) dD_set_71 (by decide) ?_
    exact ee_iret rfl dD_set_72
def fD_set_32 (l0 : Nat) (l1 : Int32) (l2 : Int32) (l3 : Int32) (l4 : Int32) (s0 : Nat) (w : PW) : PX := p_call (fD_isNumber l1 l4 w) <| p_kI fun v35 w35 => if v35 = 0 then (fD_set_61 l0 l1 l2 l3 l4 (3 : Int32) s0 w35) else (if (2 : Int32) ≤ l1 then (fD_set_61 l0 l1 l2 l3 l4 (0 : Int32) s0 w35) else ((p_obj w35 l0 10).bind fun _ => p_call (fD_isTooMany l0 l1 l4 w35) <| p_kI fun v50 w50 => if v50 = 0 then (fD_set_61 l0 l1 l2 l3 l4 (0 : Int32) s0 w50) else (fD_set_61 l0 l1 l2 l3 l4 (3 : Int32) s0 w50)))
set_option maxRecDepth 20000 in
set_option maxHeartbeats 2000000 in
theorem t_fD_set_32 {Γ : PG} : ∀ (l0 : Nat) (l1 : Int32) (l2 : Int32) (l3 : Int32) (l4 : Int32) (s0 : Nat) (w : PW), EE Γ MD_set 32 [(0, .ref l0), (1, .int l1), (2, .int l2), (3, .int l3), (4, .int l4)] [.ref s0] w (fD_set_32 l0 l1 l2 l3 l4 s0 w) := by
  intro l0 l1 l2 l3 l4 s0 w
  unfold fD_set_32
  refine ee_iload_n 1 dD_set_32 rfl ?_
  refine ee_iload 4 dD_set_33 rfl ?_
  refine ee_callS (as := [.int l1, .int l4]) (st := [.ref s0]) dD_set_35 (t_fD_isNumber l1 l4 w) my_fD_isNumber.1 (Nat.le_of_ble_eq_true rfl) my_fD_isNumber.2 rfl gw_1335 gw_1336 ⟨Nat.le_of_ble_eq_true rfl, Nat.le_of_ble_eq_true rfl⟩ (Nat.le_of_ble_eq_true rfl) (fun rv35 w35 _ => ?_)
  refine ee_kI (fun v35 => ?_)
  refine ee_if_eq (tgt := 56) dD_set_38 (by decide) (fun h38 => ?_) (fun h38 => ?_)
  · refine ee_iconst (v := (3 : Int32)) dD_set_56 (by decide) ?_
    refine ee_goto (tgt := 61) dD_set_57 (by decide) ?_
    exact t_fD_set_61 _ _ _ _ _ _ _ w35
  · refine ee_iload_n 1 dD_set_41 rfl ?_
    refine ee_iconst (v := (2 : Int32)) dD_set_42 (by decide) ?_
    refine ee_icmp_ge (tgt := 60) dD_set_43 (by decide) (fun h43 => ?_) (fun h43 => ?_)
    · refine ee_iconst (v := (0 : Int32)) dD_set_60 (by decide) ?_
      exact t_fD_set_61 _ _ _ _ _ _ _ w35
    · refine ee_aload_n 0 dD_set_46 rfl ?_
      refine ee_iload_n 1 dD_set_47 rfl ?_
      refine ee_iload 4 dD_set_48 rfl ?_
      refine ee_bind (fun _ ho50 => ?_)
      refine ee_callV (as := [.int l1, .int l4]) (st := [.ref s0]) dD_set_50 (t_fD_isTooMany l0 l1 l4 w35) my_fD_isTooMany.1 (Nat.le_of_ble_eq_true rfl) my_fD_isTooMany.2 rfl cf_10.1 rfl (p_obj_eq.mp ho50) gw_1347 gw_1349 gw_13 ⟨Nat.le_of_ble_eq_true rfl, Nat.le_of_ble_eq_true rfl⟩ (Nat.le_of_ble_eq_true rfl) (fun rv50 w50 _ => ?_)
      refine ee_kI (fun v50 => ?_)
      refine ee_if_eq (tgt := 60) dD_set_53 (by decide) (fun h53 => ?_) (fun h53 => ?_)
      · refine ee_iconst (v := (0 : Int32)) dD_set_60 (by decide) ?_
        exact t_fD_set_61 _ _ _ _ _ _ _ w50
      · refine ee_iconst (v := (3 : Int32)) dD_set_56 (by decide) ?_
        refine ee_goto (tgt := 61) dD_set_57 (by decide) ?_
        exact t_fD_set_61 _ _ _ _ _ _ _ w50
def fD_set (l0 : Nat) (l1 : Int32) (l2 : Int32) (l3 : Int32) (l4 : Int32) (w : PW) : PX := (p_obj w l0 10).bind fun _ => p_call (fD_isPlace l0 (0 : Int32) l1 l2 l3 w) <| p_kI fun v6 w6 => if ¬ v6 = 0 then (if (3 : Int32) ≤ l1 then (fD_set_32 l0 l1 l2 l3 l4 l0 w6) else ((p_obj w6 l0 10).bind fun _ => p_call (fD_isFixed l0 w6) <| p_kI fun v22 w22 => if v22 = 0 then (fD_set_32 l0 l1 l2 l3 l4 l0 w22) else (fD_set_61 l0 l1 l2 l3 l4 (2 : Int32) l0 w22))) else (fD_set_61 l0 l1 l2 l3 l4 (1 : Int32) l0 w6)
set_option maxRecDepth 20000 in
set_option maxHeartbeats 2000000 in
theorem t_fD_set {Γ : PG} : ∀ (l0 : Nat) (l1 : Int32) (l2 : Int32) (l3 : Int32) (l4 : Int32) (w : PW), EE Γ MD_set 0 (lv_args 0 [.ref l0, .int l1, .int l2, .int l3, .int l4]) [] w (fD_set l0 l1 l2 l3 l4 w) := by
  intro l0 l1 l2 l3 l4 w
  unfold fD_set
  show EE Γ MD_set 0 [(0, .ref l0), (1, .int l1), (2, .int l2), (3, .int l3), (4, .int l4)] [] w _
  refine ee_aload_n 0 dD_set_0 rfl ?_
  refine ee_aload_n 0 dD_set_1 rfl ?_
  refine ee_iconst (v := (0 : Int32)) dD_set_2 (by decide) ?_
  refine ee_iload_n 1 dD_set_3 rfl ?_
  refine ee_iload_n 2 dD_set_4 rfl ?_
  refine ee_iload_n 3 dD_set_5 rfl ?_
  refine ee_bind (fun _ ho6 => ?_)
  refine ee_callV (as := [.int (0 : Int32), .int l1, .int l2, .int l3]) (st := [.ref l0]) dD_set_6 (t_fD_isPlace l0 (0 : Int32) l1 l2 l3 w) my_fD_isPlace.1 (Nat.le_of_ble_eq_true rfl) my_fD_isPlace.2 rfl cf_10.1 rfl (p_obj_eq.mp ho6) gw_1315 gw_1317 gw_10 ⟨Nat.le_of_ble_eq_true rfl, Nat.le_of_ble_eq_true rfl⟩ (Nat.le_of_ble_eq_true rfl) (fun rv6 w6 _ => ?_)
  refine ee_kI (fun v6 => ?_)
  refine ee_if_ne (tgt := 16) dD_set_9 (by decide) (fun h9 => ?_) (fun h9 => ?_)
  · refine ee_iload_n 1 dD_set_16 rfl ?_
    refine ee_iconst (v := (3 : Int32)) dD_set_17 (by decide) ?_
    refine ee_icmp_ge (tgt := 32) dD_set_18 (by decide) (fun h18 => ?_) (fun h18 => ?_)
    · exact t_fD_set_32 _ _ _ _ _ _ w6
    · refine ee_aload_n 0 dD_set_21 rfl ?_
      refine ee_bind (fun _ ho22 => ?_)
      refine ee_callV (as := []) (st := [.ref l0]) dD_set_22 (t_fD_isFixed l0 w6) my_fD_isFixed.1 (Nat.le_of_ble_eq_true rfl) my_fD_isFixed.2 rfl cf_10.1 rfl (p_obj_eq.mp ho22) gw_1331 gw_1333 gw_12 ⟨Nat.le_of_ble_eq_true rfl, Nat.le_of_ble_eq_true rfl⟩ (Nat.le_of_ble_eq_true rfl) (fun rv22 w22 _ => ?_)
      refine ee_kI (fun v22 => ?_)
      refine ee_if_eq (tgt := 32) dD_set_25 (by decide) (fun h25 => ?_) (fun h25 => ?_)
      · exact t_fD_set_32 _ _ _ _ _ _ w22
      · refine ee_iconst (v := (2 : Int32)) dD_set_28 (by decide) ?_
        refine ee_goto (tgt := 61) dD_set_29 (by decide) ?_
        exact t_fD_set_61 _ _ _ _ _ _ _ w22
  · refine ee_iconst (v := (1 : Int32)) dD_set_12 (by decide) ?_
    refine ee_goto (tgt := 61) dD_set_13 (by decide) ?_
    exact t_fD_set_61 _ _ _ _ _ _ _ w6
def fD_tilePart_36 (l0 : Nat) (l1 : Int32) (s0 : Int32) (s1 : Nat) (w : PW) : PX := (p_put w s1 10 0 (.int s0)).bind fun w36 => (p_getI w36 l0 10 0).bind fun v40 => if v40 ≤ 0 then ((p_getR w36 l0 10 9).bind fun v49 => (p_getI w36 l0 10 8).bind fun v53 => (p_ast w36 v49 0 v53 l1).bind fun w57 => (p_getR w57 l0 10 10).bind fun v59 => (p_getI w57 l0 10 8).bind fun v63 => (p_ast w57 v59 0 v63 (0 : Int32)).bind fun w67 => (p_getR w67 l0 10 12).bind fun v69 => (p_getI w67 l0 10 8).bind fun v73 => (p_ast w67 v69 0 v73 (0 : Int32)).bind fun w77 => (p_getI w77 l0 10 8).bind fun v80 => (p_put w77 l0 10 8 (.int (v80 + (1 : Int32)))).bind fun w85 => (p_getI w85 l0 10 8).bind fun v89 => some (.inl (some (.int (v89 - (1 : Int32)))), w85)) else (some (.inl (some (.int (0 : Int32))), w36))
set_option maxRecDepth 20000 in
set_option maxHeartbeats 2000000 in
theorem t_fD_tilePart_36 {Γ : PG} : ∀ (l0 : Nat) (l1 : Int32) (s0 : Int32) (s1 : Nat) (w : PW), EE Γ MD_tilePart 36 [(0, .ref l0), (1, .int l1)] [.int s0, .ref s1] w (fD_tilePart_36 l0 l1 s0 s1 w) := by
  intro l0 l1 s0 s1 w
  unfold fD_tilePart_36
  refine ee_put dD_tilePart_36 lpD_110 (ee_nI _) (fun w36 _ => ?_)
  refine ee_aload_n 0 dD_tilePart_39 rfl ?_
  refine ee_getI dD_tilePart_40 lfD_110 (fun v40 _ => ?_)
  refine ee_if_le (tgt := 48) dD_tilePart_43 (by decide) (fun h43 => ?_) (fun h43 => ?_)
  · refine ee_aload_n 0 dD_tilePart_48 rfl ?_
    refine ee_getR dD_tilePart_49 lfD_26 (fun v49 _ => ?_)
    refine ee_aload_n 0 dD_tilePart_52 rfl ?_
    refine ee_getI dD_tilePart_53 lfD_145 (fun v53 _ => ?_)
    refine ee_iload_n 1 dD_tilePart_56 rfl ?_
    refine ee_iast (t := 0) dD_tilePart_57 rfl (fun w57 _ => ?_)
    refine ee_aload_n 0 dD_tilePart_58 rfl ?_
    refine ee_getR dD_tilePart_59 lfD_29 (fun v59 _ => ?_)
    refine ee_aload_n 0 dD_tilePart_62 rfl ?_
    refine ee_getI dD_tilePart_63 lfD_145 (fun v63 _ => ?_)
    refine ee_iconst (v := (0 : Int32)) dD_tilePart_66 (by decide) ?_
    refine ee_iast (t := 0) dD_tilePart_67 rfl (fun w67 _ => ?_)
    refine ee_aload_n 0 dD_tilePart_68 rfl ?_
    refine ee_getR dD_tilePart_69 lfD_35 (fun v69 _ => ?_)
    refine ee_aload_n 0 dD_tilePart_72 rfl ?_
    refine ee_getI dD_tilePart_73 lfD_145 (fun v73 _ => ?_)
    refine ee_iconst (v := (0 : Int32)) dD_tilePart_76 (by decide) ?_
    refine ee_iast (t := 0) dD_tilePart_77 rfl (fun w77 _ => ?_)
    refine ee_aload_n 0 dD_tilePart_78 rfl ?_
    refine ee_dup dD_tilePart_79 rfl ?_
    refine ee_getI dD_tilePart_80 lfD_145 (fun v80 _ => ?_)
    refine ee_iconst (v := (1 : Int32)) dD_tilePart_83 (by decide) ?_
    refine ee_iadd dD_tilePart_84 ?_
    refine ee_put dD_tilePart_85 lpD_145 (ee_nI _) (fun w85 _ => ?_)
    refine ee_aload_n 0 dD_tilePart_88 rfl ?_
    refine ee_getI dD_tilePart_89 lfD_145 (fun v89 _ => ?_)
    refine ee_iconst (v := (1 : Int32)) dD_tilePart_92 (by decide) ?_
    refine ee_isub dD_tilePart_93 ?_
    exact ee_iret rfl dD_tilePart_94
  · refine ee_iconst (v := (0 : Int32)) dD_tilePart_46 (by decide) ?_
    exact ee_iret rfl dD_tilePart_47
def fD_tilePart (l0 : Nat) (l1 : Int32) (w : PW) : PX := (p_obj w l0 10).bind fun _ => p_call (fD_tiles l0 (0 : Int32) w) <| p_kI fun v6 w6 => p_call (fD_in (Int32.toInt64 l1) (0 : Int64) ((Int32.toInt64 v6) - (1 : Int64)) w6) <| p_kI fun v12 w12 => if ¬ v12 = 0 then ((p_getI w12 l0 10 8).bind fun v23 => if ¬ v23 = (40 : Int32) then (fD_tilePart_36 l0 l1 (0 : Int32) l0 w12) else (fD_tilePart_36 l0 l1 (2 : Int32) l0 w12)) else (fD_tilePart_36 l0 l1 (1 : Int32) l0 w12)
set_option maxRecDepth 20000 in
set_option maxHeartbeats 2000000 in
theorem t_fD_tilePart {Γ : PG} : ∀ (l0 : Nat) (l1 : Int32) (w : PW), EE Γ MD_tilePart 0 (lv_args 0 [.ref l0, .int l1]) [] w (fD_tilePart l0 l1 w) := by
  intro l0 l1 w
  unfold fD_tilePart
  show EE Γ MD_tilePart 0 [(0, .ref l0), (1, .int l1)] [] w _
  refine ee_aload_n 0 dD_tilePart_0 rfl ?_
  refine ee_iload_n 1 dD_tilePart_1 rfl ?_
  refine ee_i2l dD_tilePart_2 ?_
  refine ee_lconst (v := (0 : Int64)) dD_tilePart_3 (by decide) ?_
  refine ee_aload_n 0 dD_tilePart_4 rfl ?_
  refine ee_iconst (v := (0 : Int32)) dD_tilePart_5 (by decide) ?_
  refine ee_bind (fun _ ho6 => ?_)
  refine ee_callV (as := [.int (0 : Int32)]) (st := [.long (0 : Int64), .long (Int32.toInt64 l1), .ref l0]) dD_tilePart_6 (t_fD_tiles l0 (0 : Int32) w) my_fD_tiles.1 (Nat.le_of_ble_eq_true rfl) my_fD_tiles.2 rfl cf_10.1 rfl (p_obj_eq.mp ho6) gw_1324 gw_1326 gw_11 ⟨Nat.le_of_ble_eq_true rfl, Nat.le_of_ble_eq_true rfl⟩ (Nat.le_of_ble_eq_true rfl) (fun rv6 w6 _ => ?_)
  refine ee_kI (fun v6 => ?_)
  refine ee_i2l dD_tilePart_9 ?_
  refine ee_lconst (v := (1 : Int64)) dD_tilePart_10 (by decide) ?_
  refine ee_lsub dD_tilePart_11 ?_
  refine ee_callS (as := [.long (Int32.toInt64 l1), .long (0 : Int64), .long ((Int32.toInt64 v6) - (1 : Int64))]) (st := [.ref l0]) dD_tilePart_12 (t_fD_in (Int32.toInt64 l1) (0 : Int64) ((Int32.toInt64 v6) - (1 : Int64)) w6) my_fD_in.1 (Nat.le_of_ble_eq_true rfl) my_fD_in.2 rfl gw_1320 gw_1321 ⟨Nat.le_of_ble_eq_true rfl, Nat.le_of_ble_eq_true rfl⟩ (Nat.le_of_ble_eq_true rfl) (fun rv12 w12 _ => ?_)
  refine ee_kI (fun v12 => ?_)
  refine ee_if_ne (tgt := 22) dD_tilePart_15 (by decide) (fun h15 => ?_) (fun h15 => ?_)
  · refine ee_aload_n 0 dD_tilePart_22 rfl ?_
    refine ee_getI dD_tilePart_23 lfD_145 (fun v23 _ => ?_)
    refine ee_bipush (v := (40 : Int32)) dD_tilePart_26 (by decide) ?_
    refine ee_icmp_ne (tgt := 35) dD_tilePart_28 (by decide) (fun h28 => ?_) (fun h28 => ?_)
    · refine ee_iconst (v := (0 : Int32)) dD_tilePart_35 (by decide) ?_
      exact t_fD_tilePart_36 _ _ _ _ w12
    · refine ee_iconst (v := (2 : Int32)) dD_tilePart_31 (by decide) ?_
      refine ee_goto (tgt := 36) dD_tilePart_32 (by decide) ?_
      exact t_fD_tilePart_36 _ _ _ _ w12
  · refine ee_iconst (v := (1 : Int32)) dD_tilePart_18 (by decide) ?_
    refine ee_goto (tgt := 36) dD_tilePart_19 (by decide) ?_
    exact t_fD_tilePart_36 _ _ _ _ w12
