def fSettings_forgetTile_2 : Nat → Nat → Int32 → Int32 → PW → PX
  | 0, _, _, _, _ => none
  | n9 + 1, l0, l1, l2, w => if (4 : Int32) ≤ l2 then (some (.inl none, w)) else ((p_getR w l0 7 3).bind fun v8 => p_call (fSettings_slotOf l1 l2 w) <| p_kI fun v13 w13 => (p_ast w13 v8 2 v13 (vp_nar .boolean (0 : Int32))).bind fun w17 => (p_getR w17 l0 7 4).bind fun v19 => p_call (fSettings_slotOf l1 l2 w17) <| p_kI fun v24 w24 => (p_ast w24 v19 2 v24 (vp_nar .boolean (0 : Int32))).bind fun w28 => p_let (l2 + (1 : Int32)) fun (l2_29 : Int32) => (fSettings_forgetTile_2 n9) l0 l1 l2_29 w28)
set_option maxRecDepth 20000 in
set_option maxHeartbeats 2000000 in
theorem t_fSettings_forgetTile_2 {Γ : PG} : ∀ (n9 : Nat) (l0 : Nat) (l1 : Int32) (l2 : Int32) (w : PW), EE Γ MSettings_forgetTile 2 [(0, .ref l0), (1, .int l1), (2, .int l2)] [] w (fSettings_forgetTile_2 n9 l0 l1 l2 w) := by
  intro n9
  induction n9 with
  | zero => intro l0 l1 l2 w; exact ee_none
  | succ n9 ih =>
    intro l0 l1 l2 w
    unfold fSettings_forgetTile_2
    refine ee_iload_n 2 dSettings_forgetTile_2 rfl ?_
    refine ee_iconst (v := (4 : Int32)) dSettings_forgetTile_3 (by decide) ?_
    refine ee_icmp_ge (tgt := 35) dSettings_forgetTile_4 (by decide) (fun h4 => ?_) (fun h4 => ?_)
    · exact ee_vret rfl dSettings_forgetTile_35
    · refine ee_aload_n 0 dSettings_forgetTile_7 rfl ?_
      refine ee_getR dSettings_forgetTile_8 lfSettings_21 (fun v8 _ => ?_)
      refine ee_iload_n 1 dSettings_forgetTile_11 rfl ?_
      refine ee_iload_n 2 dSettings_forgetTile_12 rfl ?_
      refine ee_callS (as := [.int l1, .int l2]) (st := [.ref v8]) dSettings_forgetTile_13 (t_fSettings_slotOf l1 l2 w) my_fSettings_slotOf.1 (Nat.le_of_ble_eq_true rfl) my_fSettings_slotOf.2 rfl gw_425 gw_426 ⟨Nat.le_of_ble_eq_true rfl, Nat.le_of_ble_eq_true rfl⟩ (Nat.le_of_ble_eq_true rfl) (fun rv13 w13 _ => ?_)
      refine ee_kI (fun v13 => ?_)
      refine ee_iconst (v := (0 : Int32)) dSettings_forgetTile_16 (by decide) ?_
      refine ee_zast (t := 2) dSettings_forgetTile_17 rfl (fun w17 _ => ?_)
      refine ee_aload_n 0 dSettings_forgetTile_18 rfl ?_
      refine ee_getR dSettings_forgetTile_19 lfSettings_25 (fun v19 _ => ?_)
      refine ee_iload_n 1 dSettings_forgetTile_22 rfl ?_
      refine ee_iload_n 2 dSettings_forgetTile_23 rfl ?_
      refine ee_callS (as := [.int l1, .int l2]) (st := [.ref v19]) dSettings_forgetTile_24 (t_fSettings_slotOf l1 l2 w17) my_fSettings_slotOf.1 (Nat.le_of_ble_eq_true rfl) my_fSettings_slotOf.2 rfl gw_425 gw_426 ⟨Nat.le_of_ble_eq_true rfl, Nat.le_of_ble_eq_true rfl⟩ (Nat.le_of_ble_eq_true rfl) (fun rv24 w24 _ => ?_)
      refine ee_kI (fun v24 => ?_)
      refine ee_iconst (v := (0 : Int32)) dSettings_forgetTile_27 (by decide) ?_
      refine ee_zast (t := 2) dSettings_forgetTile_28 rfl (fun w28 _ => ?_)
      refine ee_iinc 2 dSettings_forgetTile_29 rfl (e := (1 : Int32)) (by decide) (Nat.le_of_ble_eq_true rfl) (fun l2_29 _ => ?_)
      refine ee_lv (lv2 := [(2, .int l2_29), (0, .ref l0), (1, .int l1)]) rfl ?_
      refine ee_goto (tgt := 2) dSettings_forgetTile_32 (by decide) ?_
      refine ee_pick [1, 2, 0] rfl ?_
      exact ih _ _ _ w28
def fSettings_forgetTile (l0 : Nat) (l1 : Int32) (w : PW) : PX := fSettings_forgetTile_2 FUEL l0 l1 (-1 : Int32) w
set_option maxRecDepth 20000 in
set_option maxHeartbeats 2000000 in
theorem t_fSettings_forgetTile {Γ : PG} : ∀ (l0 : Nat) (l1 : Int32) (w : PW), EE Γ MSettings_forgetTile 0 (lv_args 0 [.ref l0, .int l1]) [] w (fSettings_forgetTile l0 l1 w) := by
  intro l0 l1 w
  unfold fSettings_forgetTile
  show EE Γ MSettings_forgetTile 0 [(0, .ref l0), (1, .int l1)] [] w _
  refine ee_iconst (v := (-1 : Int32)) dSettings_forgetTile_0 (by decide) ?_
  refine ee_istore_n (lv2 := [(2, .int (-1 : Int32)), (0, .ref l0), (1, .int l1)]) dSettings_forgetTile_1 (Nat.le_of_ble_eq_true rfl) rfl ?_
  refine ee_pick [1, 2, 0] rfl ?_
  exact t_fSettings_forgetTile_2 FUEL _ _ _ w
def fSettings_asManyAsItTakes (l0 : Int32) (l1 : Int32) (w : PW) : PX := if (1 : Int32) ≤ l1 then ((p_idiv ((l0 + l1) - (1 : Int32)) l1).bind fun v15 => some (.inl (some (.int v15)), w)) else (some (.inl (some (.int (0 : Int32))), w))
set_option maxRecDepth 20000 in
set_option maxHeartbeats 2000000 in
theorem t_fSettings_asManyAsItTakes {Γ : PG} : ∀ (l0 : Int32) (l1 : Int32) (w : PW), EE Γ MSettings_asManyAsItTakes 0 (lv_args 0 [.int l0, .int l1]) [] w (fSettings_asManyAsItTakes l0 l1 w) := by
  intro l0 l1 w
  unfold fSettings_asManyAsItTakes
  show EE Γ MSettings_asManyAsItTakes 0 [(0, .int l0), (1, .int l1)] [] w _
  refine ee_iload_n 1 dSettings_asManyAsItTakes_0 rfl ?_
  refine ee_iconst (v := (1 : Int32)) dSettings_asManyAsItTakes_1 (by decide) ?_
  refine ee_icmp_ge (tgt := 9) dSettings_asManyAsItTakes_2 (by decide) (fun h2 => ?_) (fun h2 => ?_)
  · refine ee_iload_n 0 dSettings_asManyAsItTakes_9 rfl ?_
    refine ee_iload_n 1 dSettings_asManyAsItTakes_10 rfl ?_
    refine ee_iadd dSettings_asManyAsItTakes_11 ?_
    refine ee_iconst (v := (1 : Int32)) dSettings_asManyAsItTakes_12 (by decide) ?_
    refine ee_isub dSettings_asManyAsItTakes_13 ?_
    refine ee_iload_n 1 dSettings_asManyAsItTakes_14 rfl ?_
    refine ee_idiv dSettings_asManyAsItTakes_15 (fun v15 _ => ?_)
    exact ee_iret rfl dSettings_asManyAsItTakes_16
  · refine ee_iconst (v := (0 : Int32)) dSettings_asManyAsItTakes_5 (by decide) ?_
    refine ee_goto (tgt := 16) dSettings_asManyAsItTakes_6 (by decide) ?_
    exact ee_iret rfl dSettings_asManyAsItTakes_16
def fSettings_tilesFor (l0 : Nat) (l1 : Int32) (l2 : Int32) (w : PW) : PX := (p_getI w l0 7 5).bind fun v2 => p_call (fSettings_asManyAsItTakes l1 v2 w) <| p_kI fun v5 w5 => (p_getI w5 l0 7 6).bind fun v10 => p_call (fSettings_asManyAsItTakes l2 v10 w5) <| p_kI fun v13 w13 => some (.inl (some (.int (v5 * v13))), w13)
set_option maxRecDepth 20000 in
set_option maxHeartbeats 2000000 in
theorem t_fSettings_tilesFor {Γ : PG} : ∀ (l0 : Nat) (l1 : Int32) (l2 : Int32) (w : PW), EE Γ MSettings_tilesFor 0 (lv_args 0 [.ref l0, .int l1, .int l2]) [] w (fSettings_tilesFor l0 l1 l2 w) := by
  intro l0 l1 l2 w
  unfold fSettings_tilesFor
  show EE Γ MSettings_tilesFor 0 [(0, .ref l0), (1, .int l1), (2, .int l2)] [] w _
  refine ee_iload_n 1 dSettings_tilesFor_0 rfl ?_
  refine ee_aload_n 0 dSettings_tilesFor_1 rfl ?_
  refine ee_getI dSettings_tilesFor_2 lfSettings_28 (fun v2 _ => ?_)
  refine ee_callS (as := [.int l1, .int v2]) (st := []) dSettings_tilesFor_5 (t_fSettings_asManyAsItTakes l1 v2 w) my_fSettings_asManyAsItTakes.1 (Nat.le_of_ble_eq_true rfl) my_fSettings_asManyAsItTakes.2 rfl gw_626 gw_627 ⟨Nat.le_of_ble_eq_true rfl, Nat.le_of_ble_eq_true rfl⟩ (Nat.le_of_ble_eq_true rfl) (fun rv5 w5 _ => ?_)
  refine ee_kI (fun v5 => ?_)
  refine ee_iload_n 2 dSettings_tilesFor_8 rfl ?_
  refine ee_aload_n 0 dSettings_tilesFor_9 rfl ?_
  refine ee_getI dSettings_tilesFor_10 lfSettings_32 (fun v10 _ => ?_)
  refine ee_callS (as := [.int l2, .int v10]) (st := [.int v5]) dSettings_tilesFor_13 (t_fSettings_asManyAsItTakes l2 v10 w5) my_fSettings_asManyAsItTakes.1 (Nat.le_of_ble_eq_true rfl) my_fSettings_asManyAsItTakes.2 rfl gw_626 gw_627 ⟨Nat.le_of_ble_eq_true rfl, Nat.le_of_ble_eq_true rfl⟩ (Nat.le_of_ble_eq_true rfl) (fun rv13 w13 _ => ?_)
  refine ee_kI (fun v13 => ?_)
  refine ee_imul dSettings_tilesFor_16 ?_
  exact ee_iret rfl dSettings_tilesFor_17
def fSettings_tiles (l0 : Nat) (w : PW) : PX := (p_getR w l0 7 0).bind fun v2 => (p_ald w v2 0 (0 : Int32)).bind fun v6 => (p_getR w l0 7 0).bind fun v8 => (p_ald w v8 0 (1 : Int32)).bind fun v12 => (p_obj w l0 7).bind fun _ => p_call (fSettings_tilesFor l0 v6 v12 w) <| p_kI fun v13 w13 => some (.inl (some (.int v13)), w13)
set_option maxRecDepth 20000 in
set_option maxHeartbeats 2000000 in
theorem t_fSettings_tiles {Γ : PG} : ∀ (l0 : Nat) (w : PW), EE Γ MSettings_tiles 0 (lv_args 0 [.ref l0]) [] w (fSettings_tiles l0 w) := by
  intro l0 w
  unfold fSettings_tiles
  show EE Γ MSettings_tiles 0 [(0, .ref l0)] [] w _
  refine ee_aload_n 0 dSettings_tiles_0 rfl ?_
  refine ee_aload_n 0 dSettings_tiles_1 rfl ?_
  refine ee_getR dSettings_tiles_2 lfSettings_11 (fun v2 _ => ?_)
  refine ee_iconst (v := (0 : Int32)) dSettings_tiles_5 (by decide) ?_
  refine ee_iald (t := 0) dSettings_tiles_6 rfl (fun v6 _ => ?_)
  refine ee_aload_n 0 dSettings_tiles_7 rfl ?_
  refine ee_getR dSettings_tiles_8 lfSettings_11 (fun v8 _ => ?_)
  refine ee_iconst (v := (1 : Int32)) dSettings_tiles_11 (by decide) ?_
  refine ee_iald (t := 0) dSettings_tiles_12 rfl (fun v12 _ => ?_)
  refine ee_bind (fun _ ho13 => ?_)
  refine ee_callV (as := [.int v6, .int v12]) (st := []) dSettings_tiles_13 (t_fSettings_tilesFor l0 v6 v12 w) my_fSettings_tilesFor.1 (Nat.le_of_ble_eq_true rfl) my_fSettings_tilesFor.2 rfl cf_7.1 rfl (p_obj_eq.mp ho13) gw_622 gw_623 gw_624 ⟨Nat.le_of_ble_eq_true rfl, Nat.le_of_ble_eq_true rfl⟩ (Nat.le_of_ble_eq_true rfl) (fun rv13 w13 _ => ?_)
  refine ee_kI (fun v13 => ?_)
  exact ee_iret rfl dSettings_tiles_16
def fSettings_isTile (l0 : Nat) (l1 : Int32) (w : PW) : PX := if l1 < 0 then (p_retZ (0 : Int32) w) else ((p_obj w l0 7).bind fun _ => p_call (fSettings_tiles l0 w) <| p_kI fun v6 w6 => if v6 ≤ l1 then (p_retZ (0 : Int32) w6) else (p_retZ (1 : Int32) w6))
set_option maxRecDepth 20000 in
set_option maxHeartbeats 2000000 in
theorem t_fSettings_isTile {Γ : PG} : ∀ (l0 : Nat) (l1 : Int32) (w : PW), EE Γ MSettings_isTile 0 (lv_args 0 [.ref l0, .int l1]) [] w (fSettings_isTile l0 l1 w) := by
  intro l0 l1 w
  unfold fSettings_isTile
  show EE Γ MSettings_isTile 0 [(0, .ref l0), (1, .int l1)] [] w _
  refine ee_iload_n 1 dSettings_isTile_0 rfl ?_
  refine ee_if_lt (tgt := 16) dSettings_isTile_1 (by decide) (fun h1 => ?_) (fun h1 => ?_)
  · refine ee_iconst (v := (0 : Int32)) dSettings_isTile_16 (by decide) ?_
    exact ee_zret rfl dSettings_isTile_17
  · refine ee_iload_n 1 dSettings_isTile_4 rfl ?_
    refine ee_aload_n 0 dSettings_isTile_5 rfl ?_
    refine ee_bind (fun _ ho6 => ?_)
    refine ee_callV (as := []) (st := [.int l1]) dSettings_isTile_6 (t_fSettings_tiles l0 w) my_fSettings_tiles.1 (Nat.le_of_ble_eq_true rfl) my_fSettings_tiles.2 rfl cf_7.1 rfl (p_obj_eq.mp ho6) gw_684 gw_619 gw_620 ⟨Nat.le_of_ble_eq_true rfl, Nat.le_of_ble_eq_true rfl⟩ (Nat.le_of_ble_eq_true rfl) (fun rv6 w6 _ => ?_)
    refine ee_kI (fun v6 => ?_)
    refine ee_icmp_ge (tgt := 16) dSettings_isTile_9 (by decide) (fun h9 => ?_) (fun h9 => ?_)
    · refine ee_iconst (v := (0 : Int32)) dSettings_isTile_16 (by decide) ?_
      exact ee_zret rfl dSettings_isTile_17
    · refine ee_iconst (v := (1 : Int32)) dSettings_isTile_12 (by decide) ?_
      refine ee_goto (tgt := 17) dSettings_isTile_13 (by decide) ?_
      exact ee_zret rfl dSettings_isTile_17
def fSettings_isComponent (l0 : Nat) (l1 : Int32) (w : PW) : PX := if l1 < 0 then (p_retZ (0 : Int32) w) else ((p_getR w l0 7 0).bind fun v6 => (p_ald w v6 0 (2 : Int32)).bind fun v10 => if v10 ≤ l1 then (p_retZ (0 : Int32) w) else (p_retZ (1 : Int32) w))
set_option maxRecDepth 20000 in
set_option maxHeartbeats 2000000 in
theorem t_fSettings_isComponent {Γ : PG} : ∀ (l0 : Nat) (l1 : Int32) (w : PW), EE Γ MSettings_isComponent 0 (lv_args 0 [.ref l0, .int l1]) [] w (fSettings_isComponent l0 l1 w) := by
  intro l0 l1 w
  unfold fSettings_isComponent
  show EE Γ MSettings_isComponent 0 [(0, .ref l0), (1, .int l1)] [] w _
  refine ee_iload_n 1 dSettings_isComponent_0 rfl ?_
  refine ee_if_lt (tgt := 18) dSettings_isComponent_1 (by decide) (fun h1 => ?_) (fun h1 => ?_)
  · refine ee_iconst (v := (0 : Int32)) dSettings_isComponent_18 (by decide) ?_
    exact ee_zret rfl dSettings_isComponent_19
  · refine ee_iload_n 1 dSettings_isComponent_4 rfl ?_
    refine ee_aload_n 0 dSettings_isComponent_5 rfl ?_
    refine ee_getR dSettings_isComponent_6 lfSettings_11 (fun v6 _ => ?_)
    refine ee_iconst (v := (2 : Int32)) dSettings_isComponent_9 (by decide) ?_
    refine ee_iald (t := 0) dSettings_isComponent_10 rfl (fun v10 _ => ?_)
    refine ee_icmp_ge (tgt := 18) dSettings_isComponent_11 (by decide) (fun h11 => ?_) (fun h11 => ?_)
    · refine ee_iconst (v := (0 : Int32)) dSettings_isComponent_18 (by decide) ?_
      exact ee_zret rfl dSettings_isComponent_19
    · refine ee_iconst (v := (1 : Int32)) dSettings_isComponent_14 (by decide) ?_
      refine ee_goto (tgt := 19) dSettings_isComponent_15 (by decide) ?_
      exact ee_zret rfl dSettings_isComponent_19
def fW_isWithin (l0 : Int32) (l1 : Int64) (w : PW) : PX := if l0 < 0 then (p_retZ (0 : Int32) w) else (if (p_tlen 0) ≤ l0 then (p_retZ (0 : Int32) w) else ((p_tab 0 l0).bind fun v17 => if (lg_cmp l1 (Int32.toInt64 v17)) < 0 then (p_retZ (0 : Int32) w) else ((p_tab 1 l0).bind fun v28 => if 0 < (lg_cmp l1 (Int32.toInt64 v28)) then (p_retZ (0 : Int32) w) else (p_retZ (1 : Int32) w))))
set_option maxRecDepth 20000 in
set_option maxHeartbeats 2000000 in
theorem t_fW_isWithin {Γ : PG} : ∀ (l0 : Int32) (l1 : Int64) (w : PW), EE Γ MW_isWithin 0 (lv_args 0 [.int l0, .long l1]) [] w (fW_isWithin l0 l1 w) := by
  intro l0 l1 w
  unfold fW_isWithin
  show EE Γ MW_isWithin 0 [(0, .int l0), (1, .long l1)] [] w _
  refine ee_iload_n 0 dW_isWithin_0 rfl ?_
  refine ee_if_lt (tgt := 38) dW_isWithin_1 (by decide) (fun h1 => ?_) (fun h1 => ?_)
  · refine ee_iconst (v := (0 : Int32)) dW_isWithin_38 (by decide) ?_
    exact ee_zret rfl dW_isWithin_39
  · refine ee_iload_n 0 dW_isWithin_4 rfl ?_
    refine ee_gets (j := 0) (by decide) dW_isWithin_5 lsW_334 ?_
    refine ee_tlen (by decide) dW_isWithin_8 ?_
    refine ee_icmp_ge (tgt := 38) dW_isWithin_9 (by decide) (fun h9 => ?_) (fun h9 => ?_)
    · refine ee_iconst (v := (0 : Int32)) dW_isWithin_38 (by decide) ?_
      exact ee_zret rfl dW_isWithin_39
    · refine ee_lload_n 1 dW_isWithin_12 rfl ?_
      refine ee_gets (j := 0) (by decide) dW_isWithin_13 lsW_334 ?_
      refine ee_iload_n 0 dW_isWithin_16 rfl ?_
      refine ee_tald (by decide) dW_isWithin_17 (fun v17 _ => ?_)
      refine ee_i2l dW_isWithin_18 ?_
      refine ee_lcmp dW_isWithin_19 ?_
      refine ee_if_lt (tgt := 38) dW_isWithin_20 (by decide) (fun h20 => ?_) (fun h20 => ?_)
      · refine ee_iconst (v := (0 : Int32)) dW_isWithin_38 (by decide) ?_
        exact ee_zret rfl dW_isWithin_39
      · refine ee_lload_n 1 dW_isWithin_23 rfl ?_
        refine ee_gets (j := 1) (by decide) dW_isWithin_24 lsW_337 ?_
        refine ee_iload_n 0 dW_isWithin_27 rfl ?_
        refine ee_tald (by decide) dW_isWithin_28 (fun v28 _ => ?_)
        refine ee_i2l dW_isWithin_29 ?_
        refine ee_lcmp dW_isWithin_30 ?_
        refine ee_if_gt (tgt := 38) dW_isWithin_31 (by decide) (fun h31 => ?_) (fun h31 => ?_)
        · refine ee_iconst (v := (0 : Int32)) dW_isWithin_38 (by decide) ?_
          exact ee_zret rfl dW_isWithin_39
        · refine ee_iconst (v := (1 : Int32)) dW_isWithin_34 (by decide) ?_
          refine ee_goto (tgt := 39) dW_isWithin_35 (by decide) ?_
          exact ee_zret rfl dW_isWithin_39
def fSettings_allows_41 (l0 : Nat) (l3 : Int32) (s0 : Int32) (w : PW) : PX := (p_obj w l0 7).bind fun _ => p_call (fSettings_tilesFor l0 l3 s0 w) <| p_kI fun v47 w47 => if (24 : Int32) < v47 then (p_retZ (0 : Int32) w47) else (p_retZ (1 : Int32) w47)
set_option maxRecDepth 20000 in
set_option maxHeartbeats 2000000 in
theorem t_fSettings_allows_41 {Γ : PG} : ∀ (l0 : Nat) (l3 : Int32) (s0 : Int32) (w : PW), EE Γ MSettings_allows 41 [(0, .ref l0), (3, .int l3)] [.int s0] w (fSettings_allows_41 l0 l3 s0 w) := by
  intro l0 l3 s0 w
  unfold fSettings_allows_41
  refine ee_istore (lv2 := [(4, .int s0), (0, .ref l0), (3, .int l3)]) dSettings_allows_41 (Nat.le_of_ble_eq_true rfl) rfl ?_
  refine ee_aload_n 1 dSettings_allows_43 rfl ?_
  refine ee_iload_n 2 dSettings_allows_44 rfl ?_
  refine ee_iload 0 dSettings_allows_45 rfl ?_
  refine ee_bind (fun _ ho47 => ?_)
  refine ee_callV (as := [.int l3, .int s0]) (st := []) dSettings_allows_47 (t_fSettings_tilesFor l0 l3 s0 w) my_fSettings_tilesFor.1 (Nat.le_of_ble_eq_true rfl) my_fSettings_tilesFor.2 rfl cf_7.1 rfl (p_obj_eq.mp ho47) gw_622 gw_623 gw_624 ⟨Nat.le_of_ble_eq_true rfl, Nat.le_of_ble_eq_true rfl⟩ (Nat.le_of_ble_eq_true rfl) (fun rv47 w47 _ => ?_)
  refine ee_kI (fun v47 => ?_)
  refine ee_bipush (v := (24 : Int32)) dSettings_allows_50 (by decide) ?_
  refine ee_icmp_gt (tgt := 59) dSettings_allows_52 (by decide) (fun h52 => ?_) (fun h52 => ?_)
  · refine ee_iconst (v := (0 : Int32)) dSettings_allows_59 (by decide) ?_
    exact ee_zret rfl dSettings_allows_60
  · refine ee_iconst (v := (1 : Int32)) dSettings_allows_55 (by decide) ?_
    refine ee_goto (tgt := 60) dSettings_allows_56 (by decide) ?_
    exact ee_zret rfl dSettings_allows_60
def fSettings_allows_25 (l0 : Nat) (l1 : Int32) (l2 : Int32) (s0 : Int32) (w : PW) : PX := if ¬ l1 = (1 : Int32) then ((p_getR w l0 7 0).bind fun v36 => (p_ald w v36 0 (1 : Int32)).bind fun v40 => fSettings_allows_41 l0 s0 v40 w) else (fSettings_allows_41 l0 s0 l2 w)
set_option maxRecDepth 20000 in
set_option maxHeartbeats 2000000 in
theorem t_fSettings_allows_25 {Γ : PG} : ∀ (l0 : Nat) (l1 : Int32) (l2 : Int32) (s0 : Int32) (w : PW), EE Γ MSettings_allows 25 [(0, .ref l0), (1, .int l1), (2, .int l2)] [.int s0] w (fSettings_allows_25 l0 l1 l2 s0 w) := by
  intro l0 l1 l2 s0 w
  unfold fSettings_allows_25
  refine ee_istore_n (lv2 := [(3, .int s0), (0, .ref l0), (1, .int l1), (2, .int l2)]) dSettings_allows_25 (Nat.le_of_ble_eq_true rfl) rfl ?_
  refine ee_iload_n 2 dSettings_allows_26 rfl ?_
  refine ee_iconst (v := (1 : Int32)) dSettings_allows_27 (by decide) ?_
  refine ee_icmp_ne (tgt := 35) dSettings_allows_28 (by decide) (fun h28 => ?_) (fun h28 => ?_)
  · refine ee_aload_n 1 dSettings_allows_35 rfl ?_
    refine ee_getR dSettings_allows_36 lfSettings_11 (fun v36 _ => ?_)
    refine ee_iconst (v := (1 : Int32)) dSettings_allows_39 (by decide) ?_
    refine ee_iald (t := 0) dSettings_allows_40 rfl (fun v40 _ => ?_)
    refine ee_pick [1, 0] rfl ?_
    exact t_fSettings_allows_41 _ _ _ w
  · refine ee_iload_n 3 dSettings_allows_31 rfl ?_
    refine ee_goto (tgt := 41) dSettings_allows_32 (by decide) ?_
    refine ee_pick [1, 0] rfl ?_
    exact t_fSettings_allows_41 _ _ _ w
def fSettings_allows (l0 : Nat) (l1 : Int32) (l2 : Int32) (w : PW) : PX := p_call (fW_isWithin l1 (Int32.toInt64 l2) w) <| p_kI fun v3 w3 => if ¬ v3 = 0 then (if ¬ l1 = 0 then ((p_getR w3 l0 7 0).bind fun v20 => (p_ald w3 v20 0 (0 : Int32)).bind fun v24 => fSettings_allows_25 l0 l1 l2 v24 w3) else (fSettings_allows_25 l0 l1 l2 l2 w3)) else (p_retZ (0 : Int32) w3)
set_option maxRecDepth 20000 in
set_option maxHeartbeats 2000000 in
theorem t_fSettings_allows {Γ : PG} : ∀ (l0 : Nat) (l1 : Int32) (l2 : Int32) (w : PW), EE Γ MSettings_allows 0 (lv_args 0 [.ref l0, .int l1, .int l2]) [] w (fSettings_allows l0 l1 l2 w) := by
  intro l0 l1 l2 w
  unfold fSettings_allows
  show EE Γ MSettings_allows 0 [(0, .ref l0), (1, .int l1), (2, .int l2)] [] w _
  refine ee_iload_n 1 dSettings_allows_0 rfl ?_
  refine ee_iload_n 2 dSettings_allows_1 rfl ?_
  refine ee_i2l dSettings_allows_2 ?_
  refine ee_callSN (as := [.int l1, .long (Int32.toInt64 l2)]) (st := []) dSettings_allows_3 (t_fW_isWithin l1 (Int32.toInt64 l2) w) my_fW_isWithin.1 (Nat.le_of_ble_eq_true rfl) my_fW_isWithin.2 rfl gw_851 gw_604 ⟨Nat.le_of_ble_eq_true rfl, Nat.le_of_ble_eq_true rfl⟩ (Nat.le_of_ble_eq_true rfl) (fun rv3 w3 _ => ?_)
  refine ee_kI (fun v3 => ?_)
  refine ee_if_ne (tgt := 11) dSettings_allows_6 (by decide) (fun h6 => ?_) (fun h6 => ?_)
  · refine ee_iload_n 1 dSettings_allows_11 rfl ?_
    refine ee_if_ne (tgt := 19) dSettings_allows_12 (by decide) (fun h12 => ?_) (fun h12 => ?_)
    · refine ee_aload_n 0 dSettings_allows_19 rfl ?_
      refine ee_getR dSettings_allows_20 lfSettings_11 (fun v20 _ => ?_)
      refine ee_iconst (v := (0 : Int32)) dSettings_allows_23 (by decide) ?_
      refine ee_iald (t := 0) dSettings_allows_24 rfl (fun v24 _ => ?_)
      exact t_fSettings_allows_25 _ _ _ _ w3
    · refine ee_iload_n 2 dSettings_allows_15 rfl ?_
      refine ee_goto (tgt := 25) dSettings_allows_16 (by decide) ?_
      exact t_fSettings_allows_25 _ _ _ _ w3
  · refine ee_iconst (v := (0 : Int32)) dSettings_allows_9 (by decide) ?_
    exact ee_zret rfl dSettings_allows_10
def fSettings_hasSegmentNotForAll_2 : Nat → Nat → Int32 → PW → PX
  | 0, _, _, _ => none
  | n9 + 1, l0, l1, w => if (125 : Int32) ≤ l1 then (p_retZ (0 : Int32) w) else ((p_getR w l0 7 3).bind fun v9 => (p_ald w v9 2 l1).bind fun v13 => if ¬ v13 = 0 then (p_retZ (1 : Int32) w) else ((p_getR w l0 7 4).bind fun v18 => (p_ald w v18 2 l1).bind fun v22 => if v22 = 0 then (p_let (l1 + (1 : Int32)) fun (l1_28 : Int32) => (fSettings_hasSegmentNotForAll_2 n9) l0 l1_28 w) else (p_retZ (1 : Int32) w)))
set_option maxRecDepth 20000 in
set_option maxHeartbeats 2000000 in
theorem t_fSettings_hasSegmentNotForAll_2 {Γ : PG} : ∀ (n9 : Nat) (l0 : Nat) (l1 : Int32) (w : PW), EE Γ MSettings_hasSegmentNotForAll 2 [(0, .ref l0), (1, .int l1)] [] w (fSettings_hasSegmentNotForAll_2 n9 l0 l1 w) := by
  intro n9
  induction n9 with
  | zero => intro l0 l1 w; exact ee_none
  | succ n9 ih =>
    intro l0 l1 w
    unfold fSettings_hasSegmentNotForAll_2
    refine ee_iload_n 1 dSettings_hasSegmentNotForAll_2 rfl ?_
    refine ee_bipush (v := (125 : Int32)) dSettings_hasSegmentNotForAll_3 (by decide) ?_
    refine ee_icmp_ge (tgt := 34) dSettings_hasSegmentNotForAll_5 (by decide) (fun h5 => ?_) (fun h5 => ?_)
    · refine ee_iconst (v := (0 : Int32)) dSettings_hasSegmentNotForAll_34 (by decide) ?_
      exact ee_zret rfl dSettings_hasSegmentNotForAll_35
    · refine ee_aload_n 0 dSettings_hasSegmentNotForAll_8 rfl ?_
      refine ee_getR dSettings_hasSegmentNotForAll_9 lfSettings_21 (fun v9 _ => ?_)
      refine ee_iload_n 1 dSettings_hasSegmentNotForAll_12 rfl ?_
      refine ee_zald (t := 2) dSettings_hasSegmentNotForAll_13 rfl (fun v13 _ => ?_)
      refine ee_if_ne (tgt := 26) dSettings_hasSegmentNotForAll_14 (by decide) (fun h14 => ?_) (fun h14 => ?_)
      · refine ee_iconst (v := (1 : Int32)) dSettings_hasSegmentNotForAll_26 (by decide) ?_
        exact ee_zret rfl dSettings_hasSegmentNotForAll_27
      · refine ee_aload_n 0 dSettings_hasSegmentNotForAll_17 rfl ?_
        refine ee_getR dSettings_hasSegmentNotForAll_18 lfSettings_25 (fun v18 _ => ?_)
        refine ee_iload_n 1 dSettings_hasSegmentNotForAll_21 rfl ?_
        refine ee_zald (t := 2) dSettings_hasSegmentNotForAll_22 rfl (fun v22 _ => ?_)
        refine ee_if_eq (tgt := 28) dSettings_hasSegmentNotForAll_23 (by decide) (fun h23 => ?_) (fun h23 => ?_)
        · refine ee_iinc 1 dSettings_hasSegmentNotForAll_28 rfl (e := (1 : Int32)) (by decide) (Nat.le_of_ble_eq_true rfl) (fun l1_28 _ => ?_)
          refine ee_lv (lv2 := [(1, .int l1_28), (0, .ref l0)]) rfl ?_
          refine ee_goto (tgt := 2) dSettings_hasSegmentNotForAll_31 (by decide) ?_
          refine ee_pick [1, 0] rfl ?_
          exact ih _ _ w
        · refine ee_iconst (v := (1 : Int32)) dSettings_hasSegmentNotForAll_26 (by decide) ?_
          exact ee_zret rfl dSettings_hasSegmentNotForAll_27
def fSettings_hasSegmentNotForAll (l0 : Nat) (w : PW) : PX := fSettings_hasSegmentNotForAll_2 FUEL l0 (1 : Int32) w
set_option maxRecDepth 20000 in
set_option maxHeartbeats 2000000 in
theorem t_fSettings_hasSegmentNotForAll {Γ : PG} : ∀ (l0 : Nat) (w : PW), EE Γ MSettings_hasSegmentNotForAll 0 (lv_args 0 [.ref l0]) [] w (fSettings_hasSegmentNotForAll l0 w) := by
  intro l0 w
  unfold fSettings_hasSegmentNotForAll
  show EE Γ MSettings_hasSegmentNotForAll 0 [(0, .ref l0)] [] w _
  refine ee_iconst (v := (1 : Int32)) dSettings_hasSegmentNotForAll_0 (by decide) ?_
  refine ee_istore_n (lv2 := [(1, .int (1 : Int32)), (0, .ref l0)]) dSettings_hasSegmentNotForAll_1 (Nat.le_of_ble_eq_true rfl) rfl ?_
  refine ee_pick [1, 0] rfl ?_
  exact t_fSettings_hasSegmentNotForAll_2 FUEL _ _ w
def fSettings_hasStyleAndStepForAll (l0 : Nat) (w : PW) : PX := (p_getR w l0 7 3).bind fun v1 => (p_ald w v1 2 (0 : Int32)).bind fun v5 => if v5 = 0 then (p_retZ (0 : Int32) w) else ((p_getR w l0 7 4).bind fun v10 => (p_ald w v10 2 (0 : Int32)).bind fun v14 => if v14 = 0 then (p_retZ (0 : Int32) w) else (p_retZ (1 : Int32) w))
set_option maxRecDepth 20000 in
set_option maxHeartbeats 2000000 in
theorem t_fSettings_hasStyleAndStepForAll {Γ : PG} : ∀ (l0 : Nat) (w : PW), EE Γ MSettings_hasStyleAndStepForAll 0 (lv_args 0 [.ref l0]) [] w (fSettings_hasStyleAndStepForAll l0 w) := by
  intro l0 w
  unfold fSettings_hasStyleAndStepForAll
  show EE Γ MSettings_hasStyleAndStepForAll 0 [(0, .ref l0)] [] w _
  refine ee_aload_n 0 dSettings_hasStyleAndStepForAll_0 rfl ?_
  refine ee_getR dSettings_hasStyleAndStepForAll_1 lfSettings_21 (fun v1 _ => ?_)
  refine ee_iconst (v := (0 : Int32)) dSettings_hasStyleAndStepForAll_4 (by decide) ?_
  refine ee_zald (t := 2) dSettings_hasStyleAndStepForAll_5 rfl (fun v5 _ => ?_)
  refine ee_if_eq (tgt := 22) dSettings_hasStyleAndStepForAll_6 (by decide) (fun h6 => ?_) (fun h6 => ?_)
  · refine ee_iconst (v := (0 : Int32)) dSettings_hasStyleAndStepForAll_22 (by decide) ?_
    exact ee_zret rfl dSettings_hasStyleAndStepForAll_23
  · refine ee_aload_n 0 dSettings_hasStyleAndStepForAll_9 rfl ?_
    refine ee_getR dSettings_hasStyleAndStepForAll_10 lfSettings_25 (fun v10 _ => ?_)
    refine ee_iconst (v := (0 : Int32)) dSettings_hasStyleAndStepForAll_13 (by decide) ?_
    refine ee_zald (t := 2) dSettings_hasStyleAndStepForAll_14 rfl (fun v14 _ => ?_)
    refine ee_if_eq (tgt := 22) dSettings_hasStyleAndStepForAll_15 (by decide) (fun h15 => ?_) (fun h15 => ?_)
    · refine ee_iconst (v := (0 : Int32)) dSettings_hasStyleAndStepForAll_22 (by decide) ?_
      exact ee_zret rfl dSettings_hasStyleAndStepForAll_23
    · refine ee_iconst (v := (1 : Int32)) dSettings_hasStyleAndStepForAll_18 (by decide) ?_
      refine ee_goto (tgt := 23) dSettings_hasStyleAndStepForAll_19 (by decide) ?_
      exact ee_zret rfl dSettings_hasStyleAndStepForAll_23
def fSettings_hasStyle (l0 : Nat) (l1 : Int32) (l2 : Int32) (w : PW) : PX := (p_getR w l0 7 3).bind fun v1 => p_call (fSettings_slotOf l1 l2 w) <| p_kI fun v6 w6 => (p_ald w6 v1 2 v6).bind fun v9 => p_retZ v9 w6
set_option maxRecDepth 20000 in
set_option maxHeartbeats 2000000 in
theorem t_fSettings_hasStyle {Γ : PG} : ∀ (l0 : Nat) (l1 : Int32) (l2 : Int32) (w : PW), EE Γ MSettings_hasStyle 0 (lv_args 0 [.ref l0, .int l1, .int l2]) [] w (fSettings_hasStyle l0 l1 l2 w) := by
  intro l0 l1 l2 w
  unfold fSettings_hasStyle
  show EE Γ MSettings_hasStyle 0 [(0, .ref l0), (1, .int l1), (2, .int l2)] [] w _
  refine ee_aload_n 0 dSettings_hasStyle_0 rfl ?_
  refine ee_getR dSettings_hasStyle_1 lfSettings_21 (fun v1 _ => ?_)
  refine ee_iload_n 1 dSettings_hasStyle_4 rfl ?_
  refine ee_iload_n 2 dSettings_hasStyle_5 rfl ?_
  refine ee_callS (as := [.int l1, .int l2]) (st := [.ref v1]) dSettings_hasStyle_6 (t_fSettings_slotOf l1 l2 w) my_fSettings_slotOf.1 (Nat.le_of_ble_eq_true rfl) my_fSettings_slotOf.2 rfl gw_425 gw_426 ⟨Nat.le_of_ble_eq_true rfl, Nat.le_of_ble_eq_true rfl⟩ (Nat.le_of_ble_eq_true rfl) (fun rv6 w6 _ => ?_)
  refine ee_kI (fun v6 => ?_)
  refine ee_zald (t := 2) dSettings_hasStyle_9 rfl (fun v9 _ => ?_)
  exact ee_zret rfl dSettings_hasStyle_10
def fSettings_hasStep (l0 : Nat) (l1 : Int32) (l2 : Int32) (w : PW) : PX := (p_getR w l0 7 4).bind fun v1 => p_call (fSettings_slotOf l1 l2 w) <| p_kI fun v6 w6 => (p_ald w6 v1 2 v6).bind fun v9 => p_retZ v9 w6
set_option maxRecDepth 20000 in
set_option maxHeartbeats 2000000 in
theorem t_fSettings_hasStep {Γ : PG} : ∀ (l0 : Nat) (l1 : Int32) (l2 : Int32) (w : PW), EE Γ MSettings_hasStep 0 (lv_args 0 [.ref l0, .int l1, .int l2]) [] w (fSettings_hasStep l0 l1 l2 w) := by
  intro l0 l1 l2 w
  unfold fSettings_hasStep
  show EE Γ MSettings_hasStep 0 [(0, .ref l0), (1, .int l1), (2, .int l2)] [] w _
  refine ee_aload_n 0 dSettings_hasStep_0 rfl ?_
  refine ee_getR dSettings_hasStep_1 lfSettings_25 (fun v1 _ => ?_)
  refine ee_iload_n 1 dSettings_hasStep_4 rfl ?_
  refine ee_iload_n 2 dSettings_hasStep_5 rfl ?_
  refine ee_callS (as := [.int l1, .int l2]) (st := [.ref v1]) dSettings_hasStep_6 (t_fSettings_slotOf l1 l2 w) my_fSettings_slotOf.1 (Nat.le_of_ble_eq_true rfl) my_fSettings_slotOf.2 rfl gw_425 gw_426 ⟨Nat.le_of_ble_eq_true rfl, Nat.le_of_ble_eq_true rfl⟩ (Nat.le_of_ble_eq_true rfl) (fun rv6 w6 _ => ?_)
  refine ee_kI (fun v6 => ?_)
  refine ee_zald (t := 2) dSettings_hasStep_9 rfl (fun v9 _ => ?_)
  exact ee_zret rfl dSettings_hasStep_10
def fSettings_slotInForce_17 (l2 : Int32) (l3 : Int32) (s0 : Nat) (w : PW) : PX := p_call (fSettings_slotOf l2 l3 w) <| p_kI fun v23 w23 => (p_ald w23 s0 2 v23).bind fun v26 => if v26 = 0 then (p_call (fSettings_slotOf l2 (-1 : Int32) w23) <| p_kI fun v40 w40 => (p_ald w40 s0 2 v40).bind fun v43 => if v43 = 0 then (p_call (fSettings_slotOf (-1 : Int32) l3 w40) <| p_kI fun v57 w57 => (p_ald w57 s0 2 v57).bind fun v60 => if v60 = 0 then (some (.inl (some (.int (0 : Int32))), w57)) else (p_call (fSettings_slotOf (-1 : Int32) l3 w57) <| p_kI fun v66 w66 => some (.inl (some (.int v66)), w66))) else (p_call (fSettings_slotOf l2 (-1 : Int32) w40) <| p_kI fun v49 w49 => some (.inl (some (.int v49)), w49))) else (p_call (fSettings_slotOf l2 l3 w23) <| p_kI fun v32 w32 => some (.inl (some (.int v32)), w32))
set_option maxRecDepth 20000 in
set_option maxHeartbeats 2000000 in
theorem t_fSettings_slotInForce_17 {Γ : PG} : ∀ (l2 : Int32) (l3 : Int32) (s0 : Nat) (w : PW), EE Γ MSettings_slotInForce 17 [(2, .int l2), (3, .int l3)] [.ref s0] w (fSettings_slotInForce_17 l2 l3 s0 w) := by
  intro l2 l3 s0 w
  unfold fSettings_slotInForce_17
  refine ee_astore (lv2 := [(4, .ref s0), (2, .int l2), (3, .int l3)]) dSettings_slotInForce_17 (Nat.le_of_ble_eq_true rfl) rfl ?_
  refine ee_aload 0 dSettings_slotInForce_19 rfl ?_
  refine ee_iload_n 1 dSettings_slotInForce_21 rfl ?_
  refine ee_iload_n 2 dSettings_slotInForce_22 rfl ?_
  refine ee_callS (as := [.int l2, .int l3]) (st := [.ref s0]) dSettings_slotInForce_23 (t_fSettings_slotOf l2 l3 w) my_fSettings_slotOf.1 (Nat.le_of_ble_eq_true rfl) my_fSettings_slotOf.2 rfl gw_425 gw_426 ⟨Nat.le_of_ble_eq_true rfl, Nat.le_of_ble_eq_true rfl⟩ (Nat.le_of_ble_eq_true rfl) (fun rv23 w23 _ => ?_)
  refine ee_kI (fun v23 => ?_)
  refine ee_zald (t := 2) dSettings_slotInForce_26 rfl (fun v26 _ => ?_)
  refine ee_if_eq (tgt := 36) dSettings_slotInForce_27 (by decide) (fun h27 => ?_) (fun h27 => ?_)
  · refine ee_aload 0 dSettings_slotInForce_36 rfl ?_
    refine ee_iload_n 1 dSettings_slotInForce_38 rfl ?_
    refine ee_iconst (v := (-1 : Int32)) dSettings_slotInForce_39 (by decide) ?_
    refine ee_callS (as := [.int l2, .int (-1 : Int32)]) (st := [.ref s0]) dSettings_slotInForce_40 (t_fSettings_slotOf l2 (-1 : Int32) w23) my_fSettings_slotOf.1 (Nat.le_of_ble_eq_true rfl) my_fSettings_slotOf.2 rfl gw_425 gw_426 ⟨Nat.le_of_ble_eq_true rfl, Nat.le_of_ble_eq_true rfl⟩ (Nat.le_of_ble_eq_true rfl) (fun rv40 w40 _ => ?_)
    refine ee_kI (fun v40 => ?_)
    refine ee_zald (t := 2) dSettings_slotInForce_43 rfl (fun v43 _ => ?_)
    refine ee_if_eq (tgt := 53) dSettings_slotInForce_44 (by decide) (fun h44 => ?_) (fun h44 => ?_)
    · refine ee_aload 0 dSettings_slotInForce_53 rfl ?_
      refine ee_iconst (v := (-1 : Int32)) dSettings_slotInForce_55 (by decide) ?_
      refine ee_iload_n 2 dSettings_slotInForce_56 rfl ?_
      refine ee_callS (as := [.int (-1 : Int32), .int l3]) (st := [.ref s0]) dSettings_slotInForce_57 (t_fSettings_slotOf (-1 : Int32) l3 w40) my_fSettings_slotOf.1 (Nat.le_of_ble_eq_true rfl) my_fSettings_slotOf.2 rfl gw_425 gw_426 ⟨Nat.le_of_ble_eq_true rfl, Nat.le_of_ble_eq_true rfl⟩ (Nat.le_of_ble_eq_true rfl) (fun rv57 w57 _ => ?_)
      refine ee_kI (fun v57 => ?_)
      refine ee_zald (t := 2) dSettings_slotInForce_60 rfl (fun v60 _ => ?_)
      refine ee_if_eq (tgt := 72) dSettings_slotInForce_61 (by decide) (fun h61 => ?_) (fun h61 => ?_)
      · refine ee_iconst (v := (0 : Int32)) dSettings_slotInForce_72 (by decide) ?_
        exact ee_iret rfl dSettings_slotInForce_73
      · refine ee_iconst (v := (-1 : Int32)) dSettings_slotInForce_64 (by decide) ?_
        refine ee_iload_n 2 dSettings_slotInForce_65 rfl ?_
        refine ee_callS (as := [.int (-1 : Int32), .int l3]) (st := []) dSettings_slotInForce_66 (t_fSettings_slotOf (-1 : Int32) l3 w57) my_fSettings_slotOf.1 (Nat.le_of_ble_eq_true rfl) my_fSettings_slotOf.2 rfl gw_425 gw_426 ⟨Nat.le_of_ble_eq_true rfl, Nat.le_of_ble_eq_true rfl⟩ (Nat.le_of_ble_eq_true rfl) (fun rv66 w66 _ => ?_)
        refine ee_kI (fun v66 => ?_)
        refine ee_goto (tgt := 73) dSettings_slotInForce_69 (by decide) ?_
        exact ee_iret rfl dSettings_slotInForce_73
    · refine ee_iload_n 1 dSettings_slotInForce_47 rfl ?_
      refine ee_iconst (v := (-1 : Int32)) dSettings_slotInForce_48 (by decide) ?_
      refine ee_callS (as := [.int l2, .int (-1 : Int32)]) (st := []) dSettings_slotInForce_49 (t_fSettings_slotOf l2 (-1 : Int32) w40) my_fSettings_slotOf.1 (Nat.le_of_ble_eq_true rfl) my_fSettings_slotOf.2 rfl gw_425 gw_426 ⟨Nat.le_of_ble_eq_true rfl, Nat.le_of_ble_eq_true rfl⟩ (Nat.le_of_ble_eq_true rfl) (fun rv49 w49 _ => ?_)
      refine ee_kI (fun v49 => ?_)
      exact ee_iret rfl dSettings_slotInForce_52
  · refine ee_iload_n 1 dSettings_slotInForce_30 rfl ?_
    refine ee_iload_n 2 dSettings_slotInForce_31 rfl ?_
    refine ee_callS (as := [.int l2, .int l3]) (st := []) dSettings_slotInForce_32 (t_fSettings_slotOf l2 l3 w23) my_fSettings_slotOf.1 (Nat.le_of_ble_eq_true rfl) my_fSettings_slotOf.2 rfl gw_425 gw_426 ⟨Nat.le_of_ble_eq_true rfl, Nat.le_of_ble_eq_true rfl⟩ (Nat.le_of_ble_eq_true rfl) (fun rv32 w32 _ => ?_)
    refine ee_kI (fun v32 => ?_)
    exact ee_iret rfl dSettings_slotInForce_35
def fSettings_slotInForce (l0 : Nat) (l1 : Int32) (l2 : Int32) (l3 : Int32) (w : PW) : PX := if (9 : Int32) ≤ l1 then ((p_getR w l0 7 4).bind fun v14 => fSettings_slotInForce_17 l2 l3 v14 w) else ((p_getR w l0 7 3).bind fun v7 => fSettings_slotInForce_17 l2 l3 v7 w)
set_option maxRecDepth 20000 in
set_option maxHeartbeats 2000000 in
theorem t_fSettings_slotInForce {Γ : PG} : ∀ (l0 : Nat) (l1 : Int32) (l2 : Int32) (l3 : Int32) (w : PW), EE Γ MSettings_slotInForce 0 (lv_args 0 [.ref l0, .int l1, .int l2, .int l3]) [] w (fSettings_slotInForce l0 l1 l2 l3 w) := by
  intro l0 l1 l2 l3 w
  unfold fSettings_slotInForce
  show EE Γ MSettings_slotInForce 0 [(0, .ref l0), (1, .int l1), (2, .int l2), (3, .int l3)] [] w _
  refine ee_iload_n 1 dSettings_slotInForce_0 rfl ?_
  refine ee_bipush (v := (9 : Int32)) dSettings_slotInForce_1 (by decide) ?_
  refine ee_icmp_ge (tgt := 13) dSettings_slotInForce_3 (by decide) (fun h3 => ?_) (fun h3 => ?_)
  · refine ee_aload_n 0 dSettings_slotInForce_13 rfl ?_
    refine ee_getR dSettings_slotInForce_14 lfSettings_25 (fun v14 _ => ?_)
    refine ee_pick [2, 3] rfl ?_
    exact t_fSettings_slotInForce_17 _ _ _ w
  · refine ee_aload_n 0 dSettings_slotInForce_6 rfl ?_
    refine ee_getR dSettings_slotInForce_7 lfSettings_21 (fun v7 _ => ?_)
    refine ee_goto (tgt := 17) dSettings_slotInForce_10 (by decide) ?_
    refine ee_pick [2, 3] rfl ?_
    exact t_fSettings_slotInForce_17 _ _ _ w
def fSettings_valueOf_62 (l1 : Int32) (s0 : Int32) (s1 : Int32) (s2 : Int32) (s3 : Nat) (s4 : Nat) (w : PW) : PX := (p_obj w s3 7).bind fun _ => p_call (fSettings_slotInForce s3 s2 s1 s0 w) <| p_kI fun v62 w62 => p_call (fSettings_place v62 l1 w62) <| p_kI fun v66 w66 => (p_ald w66 s4 0 v66).bind fun v69 => some (.inl (some (.int v69)), w66)
set_option maxRecDepth 20000 in
set_option maxHeartbeats 2000000 in
theorem t_fSettings_valueOf_62 {Γ : PG} : ∀ (l1 : Int32) (s0 : Int32) (s1 : Int32) (s2 : Int32) (s3 : Nat) (s4 : Nat) (w : PW), EE Γ MSettings_valueOf 62 [(1, .int l1)] [.int s0, .int s1, .int s2, .ref s3, .ref s4] w (fSettings_valueOf_62 l1 s0 s1 s2 s3 s4 w) := by
  intro l1 s0 s1 s2 s3 s4 w
  unfold fSettings_valueOf_62
  refine ee_bind (fun _ ho62 => ?_)
  refine ee_callV (as := [.int s2, .int s1, .int s0]) (st := [.ref s4]) dSettings_valueOf_62 (t_fSettings_slotInForce s3 s2 s1 s0 w) my_fSettings_slotInForce.1 (Nat.le_of_ble_eq_true rfl) my_fSettings_slotInForce.2 rfl cf_7.1 rfl (p_obj_eq.mp ho62) gw_421 gw_422 gw_423 ⟨Nat.le_of_ble_eq_true rfl, Nat.le_of_ble_eq_true rfl⟩ (Nat.le_of_ble_eq_true rfl) (fun rv62 w62 _ => ?_)
  refine ee_kI (fun v62 => ?_)
  refine ee_iload_n 0 dSettings_valueOf_65 rfl ?_
  refine ee_callS (as := [.int v62, .int l1]) (st := [.ref s4]) dSettings_valueOf_66 (t_fSettings_place v62 l1 w62) my_fSettings_place.1 (Nat.le_of_ble_eq_true rfl) my_fSettings_place.2 rfl gw_319 gw_320 ⟨Nat.le_of_ble_eq_true rfl, Nat.le_of_ble_eq_true rfl⟩ (Nat.le_of_ble_eq_true rfl) (fun rv66 w66 _ => ?_)
  refine ee_kI (fun v66 => ?_)
  refine ee_iald (t := 0) dSettings_valueOf_69 rfl (fun v69 _ => ?_)
  exact ee_iret rfl dSettings_valueOf_70
def fSettings_valueOf_43 (l0 : Nat) (l1 : Int32) (l2 : Int32) (l3 : Int32) (s0 : Int32) (w : PW) : PX := (p_getR w l0 7 2).bind fun v46 => if s0 = 0 then (fSettings_valueOf_62 l1 l3 l2 l1 l0 v46 w) else (fSettings_valueOf_62 l1 (-1 : Int32) l2 l1 l0 v46 w)
set_option maxRecDepth 20000 in
set_option maxHeartbeats 2000000 in
theorem t_fSettings_valueOf_43 {Γ : PG} : ∀ (l0 : Nat) (l1 : Int32) (l2 : Int32) (l3 : Int32) (s0 : Int32) (w : PW), EE Γ MSettings_valueOf 43 [(0, .ref l0), (1, .int l1), (2, .int l2), (3, .int l3)] [.int s0] w (fSettings_valueOf_43 l0 l1 l2 l3 s0 w) := by
  intro l0 l1 l2 l3 s0 w
  unfold fSettings_valueOf_43
  refine ee_istore (lv2 := [(4, .int s0), (0, .ref l0), (1, .int l1), (2, .int l2), (3, .int l3)]) dSettings_valueOf_43 (Nat.le_of_ble_eq_true rfl) rfl ?_
  refine ee_aload_n 1 dSettings_valueOf_45 rfl ?_
  refine ee_getR dSettings_valueOf_46 lfSettings_18 (fun v46 _ => ?_)
  refine ee_aload_n 1 dSettings_valueOf_49 rfl ?_
  refine ee_iload_n 2 dSettings_valueOf_50 rfl ?_
  refine ee_iload_n 3 dSettings_valueOf_51 rfl ?_
  refine ee_iload 0 dSettings_valueOf_52 rfl ?_
  refine ee_if_eq (tgt := 61) dSettings_valueOf_54 (by decide) (fun h54 => ?_) (fun h54 => ?_)
  · refine ee_iload_n 4 dSettings_valueOf_61 rfl ?_
    refine ee_pick [2] rfl ?_
    exact t_fSettings_valueOf_62 _ _ _ _ _ _ w
  · refine ee_iconst (v := (-1 : Int32)) dSettings_valueOf_57 (by decide) ?_
    refine ee_goto (tgt := 62) dSettings_valueOf_58 (by decide) ?_
    refine ee_pick [2] rfl ?_
    exact t_fSettings_valueOf_62 _ _ _ _ _ _ w
def fSettings_valueOf (l0 : Nat) (l1 : Int32) (l2 : Int32) (l3 : Int32) (w : PW) : PX := if (2 : Int32) < l1 then (if ¬ l1 = (3 : Int32) then (if l1 = (4 : Int32) then (fSettings_valueOf_43 l0 l1 l2 l3 (1 : Int32) w) else (if ¬ l1 = (5 : Int32) then (fSettings_valueOf_43 l0 l1 l2 l3 (0 : Int32) w) else (fSettings_valueOf_43 l0 l1 l2 l3 (1 : Int32) w))) else ((p_getR w l0 7 1).bind fun v18 => (p_ald w v18 0 (p_max (0 : Int32) l3)).bind fun v26 => some (.inl (some (.int v26)), w))) else ((p_getR w l0 7 0).bind fun v6 => (p_ald w v6 0 l1).bind fun v10 => some (.inl (some (.int v10)), w))
set_option maxRecDepth 20000 in
set_option maxHeartbeats 2000000 in
theorem t_fSettings_valueOf {Γ : PG} : ∀ (l0 : Nat) (l1 : Int32) (l2 : Int32) (l3 : Int32) (w : PW), EE Γ MSettings_valueOf 0 (lv_args 0 [.ref l0, .int l1, .int l2, .int l3]) [] w (fSettings_valueOf l0 l1 l2 l3 w) := by
  intro l0 l1 l2 l3 w
  unfold fSettings_valueOf
  show EE Γ MSettings_valueOf 0 [(0, .ref l0), (1, .int l1), (2, .int l2), (3, .int l3)] [] w _
  refine ee_iload_n 1 dSettings_valueOf_0 rfl ?_
  refine ee_iconst (v := (2 : Int32)) dSettings_valueOf_1 (by decide) ?_
  refine ee_icmp_gt (tgt := 12) dSettings_valueOf_2 (by decide) (fun h2 => ?_) (fun h2 => ?_)
  · refine ee_iload_n 1 dSettings_valueOf_12 rfl ?_
    refine ee_iconst (v := (3 : Int32)) dSettings_valueOf_13 (by decide) ?_
    refine ee_icmp_ne (tgt := 28) dSettings_valueOf_14 (by decide) (fun h14 => ?_) (fun h14 => ?_)
    · refine ee_iload_n 1 dSettings_valueOf_28 rfl ?_
      refine ee_iconst (v := (4 : Int32)) dSettings_valueOf_29 (by decide) ?_
      refine ee_icmp_eq (tgt := 38) dSettings_valueOf_30 (by decide) (fun h30 => ?_) (fun h30 => ?_)
      · refine ee_iconst (v := (1 : Int32)) dSettings_valueOf_38 (by decide) ?_
        refine ee_goto (tgt := 43) dSettings_valueOf_39 (by decide) ?_
        exact t_fSettings_valueOf_43 _ _ _ _ _ w
      · refine ee_iload_n 1 dSettings_valueOf_33 rfl ?_
        refine ee_iconst (v := (5 : Int32)) dSettings_valueOf_34 (by decide) ?_
        refine ee_icmp_ne (tgt := 42) dSettings_valueOf_35 (by decide) (fun h35 => ?_) (fun h35 => ?_)
        · refine ee_iconst (v := (0 : Int32)) dSettings_valueOf_42 (by decide) ?_
          exact t_fSettings_valueOf_43 _ _ _ _ _ w
        · refine ee_iconst (v := (1 : Int32)) dSettings_valueOf_38 (by decide) ?_
          refine ee_goto (tgt := 43) dSettings_valueOf_39 (by decide) ?_
          exact t_fSettings_valueOf_43 _ _ _ _ _ w
    · refine ee_aload_n 0 dSettings_valueOf_17 rfl ?_
      refine ee_getR dSettings_valueOf_18 lfSettings_15 (fun v18 _ => ?_)
      refine ee_iconst (v := (0 : Int32)) dSettings_valueOf_21 (by decide) ?_
      refine ee_iload_n 3 dSettings_valueOf_22 rfl ?_
      refine ee_mmax dSettings_valueOf_23 gw_420 gw_mmaxs gw_mi gw_mmaxc ⟨Nat.le_of_ble_eq_true rfl, Nat.le_of_ble_eq_true rfl⟩ ?_
      refine ee_iald (t := 0) dSettings_valueOf_26 rfl (fun v26 _ => ?_)
      exact ee_iret rfl dSettings_valueOf_27
  · refine ee_aload_n 0 dSettings_valueOf_5 rfl ?_
    refine ee_getR dSettings_valueOf_6 lfSettings_11 (fun v6 _ => ?_)
    refine ee_iload_n 1 dSettings_valueOf_9 rfl ?_
    refine ee_iald (t := 0) dSettings_valueOf_10 rfl (fun v10 _ => ?_)
    exact ee_iret rfl dSettings_valueOf_11
def fSettings_changeDepth_17 (k_2 : Nat → Int32 → Int32 → Int32 → PW → PX) (l0 : Nat) (l1 : Int32) (l2 : Int32) (l3 : Int32) (w : PW) : PX := (p_getR w l0 7 1).bind fun v18 => (p_ast w v18 0 l3 l2).bind fun w23 => p_let (l3 + (1 : Int32)) fun (l3_24 : Int32) => k_2 l0 l1 l2 l3_24 w23
set_option maxRecDepth 20000 in
set_option maxHeartbeats 2000000 in
theorem t_fSettings_changeDepth_17 {Γ : PG} {k_2 : Nat → Int32 → Int32 → Int32 → PW → PX} (hk_2 : ∀ (l0 : Nat) (l1 : Int32) (l2 : Int32) (l3 : Int32) (w : PW), EE Γ MSettings_changeDepth 2 [(0, .ref l0), (1, .int l1), (2, .int l2), (3, .int l3)] [] w (k_2 l0 l1 l2 l3 w)) : ∀ (l0 : Nat) (l1 : Int32) (l2 : Int32) (l3 : Int32) (w : PW), EE Γ MSettings_changeDepth 17 [(0, .ref l0), (1, .int l1), (2, .int l2), (3, .int l3)] [] w (fSettings_changeDepth_17 k_2 l0 l1 l2 l3 w) := by
  intro l0 l1 l2 l3 w
  unfold fSettings_changeDepth_17
  refine ee_aload_n 0 dSettings_changeDepth_17 rfl ?_
  refine ee_getR dSettings_changeDepth_18 lfSettings_15 (fun v18 _ => ?_)
  refine ee_iload_n 3 dSettings_changeDepth_21 rfl ?_
  refine ee_iload_n 2 dSettings_changeDepth_22 rfl ?_
  refine ee_iast (t := 0) dSettings_changeDepth_23 rfl (fun w23 _ => ?_)
  refine ee_iinc 3 dSettings_changeDepth_24 rfl (e := (1 : Int32)) (by decide) (Nat.le_of_ble_eq_true rfl) (fun l3_24 _ => ?_)
  refine ee_lv (lv2 := [(3, .int l3_24), (0, .ref l0), (1, .int l1), (2, .int l2)]) rfl ?_
  refine ee_goto (tgt := 2) dSettings_changeDepth_27 (by decide) ?_
  refine ee_pick [1, 2, 3, 0] rfl ?_
  exact hk_2 _ _ _ _ w23
def fSettings_changeDepth_2 : Nat → Nat → Int32 → Int32 → Int32 → PW → PX
  | 0, _, _, _, _, _ => none
  | n9 + 1, l0, l1, l2, l3, w => if (4 : Int32) ≤ l3 then (some (.inl none, w)) else (if l1 = (-1 : Int32) then (fSettings_changeDepth_17 (fSettings_changeDepth_2 n9) l0 l1 l2 l3 w) else (if ¬ l1 = l3 then (p_let (l3 + (1 : Int32)) fun (l3_24 : Int32) => (fSettings_changeDepth_2 n9) l0 l1 l2 l3_24 w) else (fSettings_changeDepth_17 (fSettings_changeDepth_2 n9) l0 l1 l2 l3 w)))
set_option maxRecDepth 20000 in
set_option maxHeartbeats 2000000 in
theorem t_fSettings_changeDepth_2 {Γ : PG} : ∀ (n9 : Nat) (l0 : Nat) (l1 : Int32) (l2 : Int32) (l3 : Int32) (w : PW), EE Γ MSettings_changeDepth 2 [(0, .ref l0), (1, .int l1), (2, .int l2), (3, .int l3)] [] w (fSettings_changeDepth_2 n9 l0 l1 l2 l3 w) := by
  intro n9
  induction n9 with
  | zero => intro l0 l1 l2 l3 w; exact ee_none
  | succ n9 ih =>
    intro l0 l1 l2 l3 w
    unfold fSettings_changeDepth_2
    refine ee_iload_n 3 dSettings_changeDepth_2 rfl ?_
    refine ee_iconst (v := (4 : Int32)) dSettings_changeDepth_3 (by decide) ?_
    refine ee_icmp_ge (tgt := 30) dSettings_changeDepth_4 (by decide) (fun h4 => ?_) (fun h4 => ?_)
    · exact ee_vret rfl dSettings_changeDepth_30
    · refine ee_iload_n 1 dSettings_changeDepth_7 rfl ?_
      refine ee_iconst (v := (-1 : Int32)) dSettings_changeDepth_8 (by decide) ?_
      refine ee_icmp_eq (tgt := 17) dSettings_changeDepth_9 (by decide) (fun h9 => ?_) (fun h9 => ?_)
      · exact t_fSettings_changeDepth_17 ih _ _ _ _ w
      · refine ee_iload_n 1 dSettings_changeDepth_12 rfl ?_
        refine ee_iload_n 3 dSettings_changeDepth_13 rfl ?_
        refine ee_icmp_ne (tgt := 24) dSettings_changeDepth_14 (by decide) (fun h14 => ?_) (fun h14 => ?_)
        · refine ee_iinc 3 dSettings_changeDepth_24 rfl (e := (1 : Int32)) (by decide) (Nat.le_of_ble_eq_true rfl) (fun l3_24 _ => ?_)
          refine ee_lv (lv2 := [(3, .int l3_24), (0, .ref l0), (1, .int l1), (2, .int l2)]) rfl ?_
          refine ee_goto (tgt := 2) dSettings_changeDepth_27 (by decide) ?_
          refine ee_pick [1, 2, 3, 0] rfl ?_
          exact ih _ _ _ _ w
        · exact t_fSettings_changeDepth_17 ih _ _ _ _ w
def fSettings_changeDepth (l0 : Nat) (l1 : Int32) (l2 : Int32) (w : PW) : PX := fSettings_changeDepth_2 FUEL l0 l1 l2 (0 : Int32) w
set_option maxRecDepth 20000 in
set_option maxHeartbeats 2000000 in
theorem t_fSettings_changeDepth {Γ : PG} : ∀ (l0 : Nat) (l1 : Int32) (l2 : Int32) (w : PW), EE Γ MSettings_changeDepth 0 (lv_args 0 [.ref l0, .int l1, .int l2]) [] w (fSettings_changeDepth l0 l1 l2 w) := by
  intro l0 l1 l2 w
  unfold fSettings_changeDepth
  show EE Γ MSettings_changeDepth 0 [(0, .ref l0), (1, .int l1), (2, .int l2)] [] w _
  refine ee_iconst (v := (0 : Int32)) dSettings_changeDepth_0 (by decide) ?_
  refine ee_istore_n (lv2 := [(3, .int (0 : Int32)), (0, .ref l0), (1, .int l1), (2, .int l2)]) dSettings_changeDepth_1 (Nat.le_of_ble_eq_true rfl) rfl ?_
  refine ee_pick [1, 2, 3, 0] rfl ?_
  exact t_fSettings_changeDepth_2 FUEL _ _ _ _ w
def fSettings_makeSegment_57 : Nat → Nat → Int32 → Int32 → Int32 → Int32 → PW → PX
  | 0, _, _, _, _, _, _ => none
  | n9 + 1, l0, l4, l5, l7, l8, w => if l7 < l8 then (some (.inl none, w)) else ((p_getR w l0 7 2).bind fun v70 => p_call (fSettings_place l5 l8 w) <| p_kI fun v77 w77 => (p_ald w77 v70 0 v77).bind fun v80 => (p_obj w77 l0 7).bind fun _ => p_call (fSettings_hold l0 l4 l8 v80 w77) <| p_kV fun w81 => p_let (l8 + (1 : Int32)) fun (l8_84 : Int32) => (fSettings_makeSegment_57 n9) l0 l4 l5 l7 l8_84 w81)
set_option maxRecDepth 20000 in
set_option maxHeartbeats 2000000 in
theorem t_fSettings_makeSegment_57 {Γ : PG} : ∀ (n9 : Nat) (l0 : Nat) (l4 : Int32) (l5 : Int32) (l7 : Int32) (l8 : Int32) (w : PW), EE Γ MSettings_makeSegment 57 [(0, .ref l0), (4, .int l4), (5, .int l5), (7, .int l7), (8, .int l8)] [] w (fSettings_makeSegment_57 n9 l0 l4 l5 l7 l8 w) := by
  intro n9
  induction n9 with
  | zero => intro l0 l4 l5 l7 l8 w; exact ee_none
  | succ n9 ih =>
    intro l0 l4 l5 l7 l8 w
    unfold fSettings_makeSegment_57
    refine ee_iload 4 dSettings_makeSegment_57 rfl ?_
    refine ee_iload 3 dSettings_makeSegment_59 rfl ?_
    refine ee_icmp_gt (tgt := 90) dSettings_makeSegment_61 (by decide) (fun h61 => ?_) (fun h61 => ?_)
    · exact ee_vret rfl dSettings_makeSegment_90
    · refine ee_aload_n 0 dSettings_makeSegment_64 rfl ?_
      refine ee_iload 1 dSettings_makeSegment_65 rfl ?_
      refine ee_iload 4 dSettings_makeSegment_67 rfl ?_
      refine ee_aload_n 0 dSettings_makeSegment_69 rfl ?_
      refine ee_getR dSettings_makeSegment_70 lfSettings_18 (fun v70 _ => ?_)
      refine ee_iload 2 dSettings_makeSegment_73 rfl ?_
      refine ee_iload 4 dSettings_makeSegment_75 rfl ?_
      refine ee_callS (as := [.int l5, .int l8]) (st := [.ref v70, .int l8, .int l4, .ref l0]) dSettings_makeSegment_77 (t_fSettings_place l5 l8 w) my_fSettings_place.1 (Nat.le_of_ble_eq_true rfl) my_fSettings_place.2 rfl gw_319 gw_320 ⟨Nat.le_of_ble_eq_true rfl, Nat.le_of_ble_eq_true rfl⟩ (Nat.le_of_ble_eq_true rfl) (fun rv77 w77 _ => ?_)
      refine ee_kI (fun v77 => ?_)
      refine ee_iald (t := 0) dSettings_makeSegment_80 rfl (fun v80 _ => ?_)
      refine ee_bind (fun _ ho81 => ?_)
      refine ee_callV (as := [.int l4, .int l8, .int v80]) (st := []) dSettings_makeSegment_81 (t_fSettings_hold l0 l4 l8 v80 w77) my_fSettings_hold.1 (Nat.le_of_ble_eq_true rfl) my_fSettings_hold.2 rfl cf_7.1 rfl (p_obj_eq.mp ho81) gw_315 gw_316 gw_317 ⟨Nat.le_of_ble_eq_true rfl, Nat.le_of_ble_eq_true rfl⟩ (Nat.le_of_ble_eq_true rfl) (fun rv81 w81 _ => ?_)
      refine ee_kV ?_
      refine ee_iinc 4 dSettings_makeSegment_84 rfl (e := (1 : Int32)) (by decide) (Nat.le_of_ble_eq_true rfl) (fun l8_84 _ => ?_)
      refine ee_lv (lv2 := [(8, .int l8_84), (0, .ref l0), (4, .int l4), (5, .int l5), (7, .int l7)]) rfl ?_
      refine ee_goto (tgt := 57) dSettings_makeSegment_87 (by decide) ?_
      refine ee_pick [1, 2, 3, 4, 0] rfl ?_
      exact ih _ _ _ _ _ w81
def fSettings_makeSegment_36 (l0 : Nat) (l1 : Int32) (l4 : Int32) (l5 : Int32) (s0 : Int32) (w : PW) : PX := if (9 : Int32) ≤ l1 then (fSettings_makeSegment_57 FUEL l0 l4 l5 (10 : Int32) s0 w) else (fSettings_makeSegment_57 FUEL l0 l4 l5 (8 : Int32) s0 w)
set_option maxRecDepth 20000 in
set_option maxHeartbeats 2000000 in
theorem t_fSettings_makeSegment_36 {Γ : PG} : ∀ (l0 : Nat) (l1 : Int32) (l4 : Int32) (l5 : Int32) (s0 : Int32) (w : PW), EE Γ MSettings_makeSegment 36 [(0, .ref l0), (1, .int l1), (4, .int l4), (5, .int l5)] [.int s0] w (fSettings_makeSegment_36 l0 l1 l4 l5 s0 w) := by
  intro l0 l1 l4 l5 s0 w
  unfold fSettings_makeSegment_36
  refine ee_istore (lv2 := [(6, .int s0), (0, .ref l0), (1, .int l1), (4, .int l4), (5, .int l5)]) dSettings_makeSegment_36 (Nat.le_of_ble_eq_true rfl) rfl ?_
  refine ee_iload_n 2 dSettings_makeSegment_38 rfl ?_
  refine ee_bipush (v := (9 : Int32)) dSettings_makeSegment_39 (by decide) ?_
  refine ee_icmp_ge (tgt := 49) dSettings_makeSegment_41 (by decide) (fun h41 => ?_) (fun h41 => ?_)
  · refine ee_bipush (v := (10 : Int32)) dSettings_makeSegment_49 (by decide) ?_
    refine ee_istore (lv2 := [(7, .int (10 : Int32)), (6, .int s0), (0, .ref l0), (1, .int l1), (4, .int l4), (5, .int l5)]) dSettings_makeSegment_51 (Nat.le_of_ble_eq_true rfl) rfl ?_
    refine ee_iload 1 dSettings_makeSegment_53 rfl ?_
    refine ee_istore (lv2 := [(8, .int s0), (7, .int (10 : Int32)), (6, .int s0), (0, .ref l0), (1, .int l1), (4, .int l4), (5, .int l5)]) dSettings_makeSegment_55 (Nat.le_of_ble_eq_true rfl) rfl ?_
    refine ee_pick [3, 5, 6, 1, 0] rfl ?_
    exact t_fSettings_makeSegment_57 FUEL _ _ _ _ _ w
  · refine ee_bipush (v := (8 : Int32)) dSettings_makeSegment_44 (by decide) ?_
    refine ee_goto (tgt := 51) dSettings_makeSegment_46 (by decide) ?_
    refine ee_istore (lv2 := [(7, .int (8 : Int32)), (6, .int s0), (0, .ref l0), (1, .int l1), (4, .int l4), (5, .int l5)]) dSettings_makeSegment_51 (Nat.le_of_ble_eq_true rfl) rfl ?_
    refine ee_iload 1 dSettings_makeSegment_53 rfl ?_
    refine ee_istore (lv2 := [(8, .int s0), (7, .int (8 : Int32)), (6, .int s0), (0, .ref l0), (1, .int l1), (4, .int l4), (5, .int l5)]) dSettings_makeSegment_55 (Nat.le_of_ble_eq_true rfl) rfl ?_
    refine ee_pick [3, 5, 6, 1, 0] rfl ?_
    exact t_fSettings_makeSegment_57 FUEL _ _ _ _ _ w
def fSettings_makeSegment (l0 : Nat) (l1 : Int32) (l2 : Int32) (l3 : Int32) (w : PW) : PX := p_call (fSettings_slotOf l2 l3 w) <| p_kI fun v2 w2 => (p_obj w2 l0 7).bind fun _ => p_call (fSettings_slotInForce l0 l1 l2 l3 w2) <| p_kI fun v11 w11 => if ¬ v2 = v11 then (if (9 : Int32) ≤ l1 then (fSettings_makeSegment_36 l0 l1 v2 v11 (9 : Int32) w11) else (fSettings_makeSegment_36 l0 l1 v2 v11 (4 : Int32) w11)) else (some (.inl none, w11))
set_option maxRecDepth 20000 in
set_option maxHeartbeats 2000000 in
theorem t_fSettings_makeSegment {Γ : PG} : ∀ (l0 : Nat) (l1 : Int32) (l2 : Int32) (l3 : Int32) (w : PW), EE Γ MSettings_makeSegment 0 (lv_args 0 [.ref l0, .int l1, .int l2, .int l3]) [] w (fSettings_makeSegment l0 l1 l2 l3 w) := by
  intro l0 l1 l2 l3 w
  unfold fSettings_makeSegment
  show EE Γ MSettings_makeSegment 0 [(0, .ref l0), (1, .int l1), (2, .int l2), (3, .int l3)] [] w _
  refine ee_iload_n 2 dSettings_makeSegment_0 rfl ?_
  refine ee_iload_n 3 dSettings_makeSegment_1 rfl ?_
  refine ee_callS (as := [.int l2, .int l3]) (st := []) dSettings_makeSegment_2 (t_fSettings_slotOf l2 l3 w) my_fSettings_slotOf.1 (Nat.le_of_ble_eq_true rfl) my_fSettings_slotOf.2 rfl gw_425 gw_426 ⟨Nat.le_of_ble_eq_true rfl, Nat.le_of_ble_eq_true rfl⟩ (Nat.le_of_ble_eq_true rfl) (fun rv2 w2 _ => ?_)
  refine ee_kI (fun v2 => ?_)
  refine ee_istore (lv2 := [(4, .int v2), (0, .ref l0), (1, .int l1), (2, .int l2), (3, .int l3)]) dSettings_makeSegment_5 (Nat.le_of_ble_eq_true rfl) rfl ?_
  refine ee_aload_n 1 dSettings_makeSegment_7 rfl ?_
  refine ee_iload_n 2 dSettings_makeSegment_8 rfl ?_
  refine ee_iload_n 3 dSettings_makeSegment_9 rfl ?_
  refine ee_iload_n 4 dSettings_makeSegment_10 rfl ?_
  refine ee_bind (fun _ ho11 => ?_)
  refine ee_callV (as := [.int l1, .int l2, .int l3]) (st := []) dSettings_makeSegment_11 (t_fSettings_slotInForce l0 l1 l2 l3 w2) my_fSettings_slotInForce.1 (Nat.le_of_ble_eq_true rfl) my_fSettings_slotInForce.2 rfl cf_7.1 rfl (p_obj_eq.mp ho11) gw_421 gw_422 gw_423 ⟨Nat.le_of_ble_eq_true rfl, Nat.le_of_ble_eq_true rfl⟩ (Nat.le_of_ble_eq_true rfl) (fun rv11 w11 _ => ?_)
  refine ee_kI (fun v11 => ?_)
  refine ee_istore (lv2 := [(5, .int v11), (4, .int v2), (0, .ref l0), (1, .int l1), (2, .int l2), (3, .int l3)]) dSettings_makeSegment_14 (Nat.le_of_ble_eq_true rfl) rfl ?_
  refine ee_iload 1 dSettings_makeSegment_16 rfl ?_
  refine ee_iload 0 dSettings_makeSegment_18 rfl ?_
  refine ee_icmp_ne (tgt := 24) dSettings_makeSegment_20 (by decide) (fun h20 => ?_) (fun h20 => ?_)
  · refine ee_iload_n 3 dSettings_makeSegment_24 rfl ?_
    refine ee_bipush (v := (9 : Int32)) dSettings_makeSegment_25 (by decide) ?_
    refine ee_icmp_ge (tgt := 34) dSettings_makeSegment_27 (by decide) (fun h27 => ?_) (fun h27 => ?_)
    · refine ee_bipush (v := (9 : Int32)) dSettings_makeSegment_34 (by decide) ?_
      refine ee_pick [2, 3, 1, 0] rfl ?_
      exact t_fSettings_makeSegment_36 _ _ _ _ _ w11
    · refine ee_iconst (v := (4 : Int32)) dSettings_makeSegment_30 (by decide) ?_
      refine ee_goto (tgt := 36) dSettings_makeSegment_31 (by decide) ?_
      refine ee_pick [2, 3, 1, 0] rfl ?_
      exact t_fSettings_makeSegment_36 _ _ _ _ _ w11
  · exact ee_vret rfl dSettings_makeSegment_23
def fSettings_change (l0 : Nat) (l1 : Int32) (l2 : Int32) (l3 : Int32) (l4 : Int32) (w : PW) : PX := if (2 : Int32) < l1 then (if ¬ l1 = (3 : Int32) then ((p_obj w l0 7).bind fun _ => p_call (fSettings_makeSegment l0 l1 l2 l3 w) <| p_kV fun w35 => p_call (fSettings_slotOf l2 l3 w35) <| p_kI fun v41 w41 => (p_obj w41 l0 7).bind fun _ => p_call (fSettings_hold l0 v41 l1 l4 w41) <| p_kV fun w47 => some (.inl none, w47)) else ((p_obj w l0 7).bind fun _ => p_call (fSettings_changeDepth l0 l3 l4 w) <| p_kV fun w25 => some (.inl none, w25))) else ((p_getR w l0 7 0).bind fun v6 => (p_ast w v6 0 l1 l4).bind fun w12 => some (.inl none, w12))
set_option maxRecDepth 20000 in
set_option maxHeartbeats 2000000 in
theorem t_fSettings_change {Γ : PG} : ∀ (l0 : Nat) (l1 : Int32) (l2 : Int32) (l3 : Int32) (l4 : Int32) (w : PW), EE Γ MSettings_change 0 (lv_args 0 [.ref l0, .int l1, .int l2, .int l3, .int l4]) [] w (fSettings_change l0 l1 l2 l3 l4 w) := by
  intro l0 l1 l2 l3 l4 w
  unfold fSettings_change
  show EE Γ MSettings_change 0 [(0, .ref l0), (1, .int l1), (2, .int l2), (3, .int l3), (4, .int l4)] [] w _
  refine ee_iload_n 1 dSettings_change_0 rfl ?_
  refine ee_iconst (v := (2 : Int32)) dSettings_change_1 (by decide) ?_
  refine ee_icmp_gt (tgt := 16) dSettings_change_2 (by decide) (fun h2 => ?_) (fun h2 => ?_)
  · refine ee_iload_n 1 dSettings_change_16 rfl ?_
    refine ee_iconst (v := (3 : Int32)) dSettings_change_17 (by decide) ?_
    refine ee_icmp_ne (tgt := 31) dSettings_change_18 (by decide) (fun h18 => ?_) (fun h18 => ?_)
    · refine ee_aload_n 0 dSettings_change_31 rfl ?_
      refine ee_iload_n 1 dSettings_change_32 rfl ?_
      refine ee_iload_n 2 dSettings_change_33 rfl ?_
      refine ee_iload_n 3 dSettings_change_34 rfl ?_
      refine ee_bind (fun _ ho35 => ?_)
      refine ee_callV (as := [.int l1, .int l2, .int l3]) (st := []) dSettings_change_35 (t_fSettings_makeSegment l0 l1 l2 l3 w) my_fSettings_makeSegment.1 (Nat.le_of_ble_eq_true rfl) my_fSettings_makeSegment.2 rfl cf_7.1 rfl (p_obj_eq.mp ho35) gw_874 gw_875 gw_876 ⟨Nat.le_of_ble_eq_true rfl, Nat.le_of_ble_eq_true rfl⟩ (Nat.le_of_ble_eq_true rfl) (fun rv35 w35 _ => ?_)
      refine ee_kV ?_
      refine ee_aload_n 0 dSettings_change_38 rfl ?_
      refine ee_iload_n 2 dSettings_change_39 rfl ?_
      refine ee_iload_n 3 dSettings_change_40 rfl ?_
      refine ee_callS (as := [.int l2, .int l3]) (st := [.ref l0]) dSettings_change_41 (t_fSettings_slotOf l2 l3 w35) my_fSettings_slotOf.1 (Nat.le_of_ble_eq_true rfl) my_fSettings_slotOf.2 rfl gw_425 gw_426 ⟨Nat.le_of_ble_eq_true rfl, Nat.le_of_ble_eq_true rfl⟩ (Nat.le_of_ble_eq_true rfl) (fun rv41 w41 _ => ?_)
      refine ee_kI (fun v41 => ?_)
      refine ee_iload_n 1 dSettings_change_44 rfl ?_
      refine ee_iload 4 dSettings_change_45 rfl ?_
      refine ee_bind (fun _ ho47 => ?_)
      refine ee_callV (as := [.int v41, .int l1, .int l4]) (st := []) dSettings_change_47 (t_fSettings_hold l0 v41 l1 l4 w41) my_fSettings_hold.1 (Nat.le_of_ble_eq_true rfl) my_fSettings_hold.2 rfl cf_7.1 rfl (p_obj_eq.mp ho47) gw_315 gw_316 gw_317 ⟨Nat.le_of_ble_eq_true rfl, Nat.le_of_ble_eq_true rfl⟩ (Nat.le_of_ble_eq_true rfl) (fun rv47 w47 _ => ?_)
      refine ee_kV ?_
      exact ee_vret rfl dSettings_change_50
    · refine ee_aload_n 0 dSettings_change_21 rfl ?_
      refine ee_iload_n 3 dSettings_change_22 rfl ?_
      refine ee_iload 4 dSettings_change_23 rfl ?_
      refine ee_bind (fun _ ho25 => ?_)
      refine ee_callV (as := [.int l3, .int l4]) (st := []) dSettings_change_25 (t_fSettings_changeDepth l0 l3 l4 w) my_fSettings_changeDepth.1 (Nat.le_of_ble_eq_true rfl) my_fSettings_changeDepth.2 rfl cf_7.1 rfl (p_obj_eq.mp ho25) gw_873 gw_635 gw_636 ⟨Nat.le_of_ble_eq_true rfl, Nat.le_of_ble_eq_true rfl⟩ (Nat.le_of_ble_eq_true rfl) (fun rv25 w25 _ => ?_)
      refine ee_kV ?_
      refine ee_goto (tgt := 50) dSettings_change_28 (by decide) ?_
      exact ee_vret rfl dSettings_change_50
  · refine ee_aload_n 0 dSettings_change_5 rfl ?_
    refine ee_getR dSettings_change_6 lfSettings_11 (fun v6 _ => ?_)
    refine ee_iload_n 1 dSettings_change_9 rfl ?_
    refine ee_iload 4 dSettings_change_10 rfl ?_
    refine ee_iast (t := 0) dSettings_change_12 rfl (fun w12 _ => ?_)
    refine ee_goto (tgt := 50) dSettings_change_13 (by decide) ?_
    exact ee_vret rfl dSettings_change_50
def fWriter_init (l0 : Nat) (w : PW) : PX := p_newO w 2 3 [.int 0, .null, .int 0] fun v5 w5 => p_call (fBytes_init v5 (20000 : Int32) w5) <| p_kV fun w12 => (p_put w12 l0 9 0 (.ref v5)).bind fun w15 => some (.inl none, w15)
set_option maxRecDepth 20000 in
set_option maxHeartbeats 2000000 in
theorem t_fWriter_init {Γ : PG} : ∀ (l0 : Nat) (w : PW), EE Γ MWriter_init 0 (lv_args 0 [.ref l0]) [] w (fWriter_init l0 w) := by
  intro l0 w
  unfold fWriter_init
  show EE Γ MWriter_init 0 [(0, .ref l0)] [] w _
  refine ee_aload_n 0 dWriter_init_0 rfl ?_
  refine ee_objInit dWriter_init_1 gw_157 gw_obji gw_objc ⟨Nat.le_of_ble_eq_true rfl, Nat.le_of_ble_eq_true rfl⟩ ?_
  refine ee_aload_n 0 dWriter_init_4 rfl ?_
  refine ee_new dWriter_init_5 lnWriter_9 (fun v5 w5 _ _ => ?_)
  refine ee_dup dWriter_init_8 rfl ?_
  refine ee_sipush (v := (20000 : Int32)) dWriter_init_9 (by decide) ?_
  refine ee_callI (as := [.int (20000 : Int32)]) (st := [.ref v5, .ref l0]) dWriter_init_12 (t_fBytes_init v5 (20000 : Int32) w5) my_fBytes_init.1 (Nat.le_of_ble_eq_true rfl) my_fBytes_init.2 rfl rfl rfl gw_160 gw_161 ⟨Nat.le_of_ble_eq_true rfl, Nat.le_of_ble_eq_true rfl⟩ (Nat.le_of_ble_eq_true rfl) (fun rv12 w12 _ => ?_)
  refine ee_kV ?_
  refine ee_put dWriter_init_15 lpiWriter_14 (ee_nR _ _) (fun w15 _ => ?_)
  exact ee_vret rfl dWriter_init_18
