def fL_cell (S : Nat × (Nat → Int32)) (l1 : Int32) (w : PW) : PX := p_let (Int32.ofNat S.1) fun v2 => if v2 ≤ l1 then (some (.inl (some (.int (0 : Int32))), w)) else ((p_sld S l1).bind fun v8 => some (.inl (some (.int v8)), w))
set_option maxRecDepth 20000 in
set_option maxHeartbeats 2000000 in
theorem t_fL_cell {Γ : PG} : ∀ (l1 : Int32) (w : PW), EE Γ ML_cell 0 (lv_args 0 [.retAddr 5, .int l1]) [] w (fL_cell (pg_S Γ) l1 w) := by
  intro l1 w
  unfold fL_cell
  show EE Γ ML_cell 0 [(0, .retAddr 5), (1, .int l1)] [] w _
  refine ee_iload_n 1 dL_cell_0 rfl ?_
  refine ee_aload_nT 0 dL_cell_1 rfl ?_
  refine ee_slen dL_cell_2 (fun v2 _ => ?_)
  refine ee_icmp_ge (tgt := 12) dL_cell_3 (by decide) (fun h3 => ?_) (fun h3 => ?_)
  · refine ee_iconst (v := (0 : Int32)) dL_cell_12 (by decide) ?_
    exact ee_iret rfl dL_cell_13
  · refine ee_aload_nT 0 dL_cell_6 rfl ?_
    refine ee_iload_n 1 dL_cell_7 rfl ?_
    refine ee_sld dL_cell_8 (fun v8 _ => ?_)
    refine ee_goto (tgt := 13) dL_cell_9 (by decide) ?_
    exact ee_iret rfl dL_cell_13
def fL_set (l0 : Nat) (l1 : Int32) (l2 : Int32) (l3 : Int32) (l4 : Int32) (l5 : Nat) (w : PW) : PX := (p_obj w l0 0).bind fun _ => p_callX (fW_set l0 l1 l2 l3 l4 w) (p_kI fun v9 w9 => (p_astJ w9 l5 (0 : Int32) (Int32.toInt64 v9)).bind fun w13 => some (.inl (some (.int (0 : Int32))), w13)) [("java/lang/IndexOutOfBoundsException", fun (w9 : PW) => some (.inl (some (.int (1 : Int32))), w9)), ("java/lang/IllegalStateException", fun (w9 : PW) => some (.inl (some (.int (2 : Int32))), w9)), ("java/lang/IllegalArgumentException", fun (w9 : PW) => some (.inl (some (.int (3 : Int32))), w9))]
set_option maxRecDepth 20000 in
set_option maxHeartbeats 2000000 in
theorem t_fL_set {Γ : PG} : ∀ (l0 : Nat) (l1 : Int32) (l2 : Int32) (l3 : Int32) (l4 : Int32) (l5 : Nat) (w : PW), EE Γ ML_set 0 (lv_args 0 [.ref l0, .int l1, .int l2, .int l3, .int l4, .ref l5]) [] w (fL_set l0 l1 l2 l3 l4 l5 w) := by
  intro l0 l1 l2 l3 l4 l5 w
  unfold fL_set
  show EE Γ ML_set 0 [(0, .ref l0), (1, .int l1), (2, .int l2), (3, .int l3), (4, .int l4), (5, .ref l5)] [] w _
  refine ee_aload 5 dL_set_0 rfl ?_
  refine ee_iconst (v := (0 : Int32)) dL_set_2 (by decide) ?_
  refine ee_aload_n 0 dL_set_3 rfl ?_
  refine ee_iload_n 1 dL_set_4 rfl ?_
  refine ee_iload_n 2 dL_set_5 rfl ?_
  refine ee_iload_n 3 dL_set_6 rfl ?_
  refine ee_iload 4 dL_set_7 rfl ?_
  refine ee_bind (fun _ ho9 => ?_)
  refine ee_callVX (as := [.int l1, .int l2, .int l3, .int l4]) (st := [.int (0 : Int32), .ref l5]) dL_set_9 (t_fW_set l0 l1 l2 l3 l4 w) my_fW_set.1 (Nat.le_of_ble_eq_true rfl) my_fW_set.2 rfl cf_0.1 rfl (p_obj_eq.mp ho9) gw_745 gw_746 gw_747 ⟨Nat.le_of_ble_eq_true rfl, Nat.le_of_ble_eq_true rfl⟩ (Nat.le_of_ble_eq_true rfl) gw_741 ?_ (fun rv9 w9 _ => ?_)
  · refine List.forall_mem_cons.mpr ⟨?_, List.forall_mem_cons.mpr ⟨?_, List.forall_mem_cons.mpr ⟨?_, fun _ h => absurd h List.not_mem_nil⟩⟩⟩
    · refine ⟨17, ⟨⟨by decide, by decide, by decide⟩, _, gw_742, Or.inl ⟨gw_757, rfl⟩⟩, fun w9 => ?_⟩
      show EE Γ ML_set 17 [(0, .ref l0), (1, .int l1), (2, .int l2), (3, .int l3), (4, .int l4), (5, .ref l5)] [.float 0] w9 _
      refine ee_astoreE (lv2 := [(6, .float 0), (0, .ref l0), (1, .int l1), (2, .int l2), (3, .int l3), (4, .int l4), (5, .ref l5)]) dL_set_17 (Nat.le_of_ble_eq_true rfl) rfl ?_
      refine ee_iconst (v := (1 : Int32)) dL_set_19 (by decide) ?_
      exact ee_iret rfl dL_set_20
    · refine ⟨21, ⟨⟨by decide, by decide, by decide⟩, _, gw_742, Or.inr ⟨by decide +kernel, ⟨⟨by decide, by decide, by decide⟩, _, gw_743, Or.inl ⟨gw_833, rfl⟩⟩⟩⟩, fun w9 => ?_⟩
      show EE Γ ML_set 21 [(0, .ref l0), (1, .int l1), (2, .int l2), (3, .int l3), (4, .int l4), (5, .ref l5)] [.float 0] w9 _
      refine ee_astoreE (lv2 := [(6, .float 0), (0, .ref l0), (1, .int l1), (2, .int l2), (3, .int l3), (4, .int l4), (5, .ref l5)]) dL_set_21 (Nat.le_of_ble_eq_true rfl) rfl ?_
      refine ee_iconst (v := (2 : Int32)) dL_set_23 (by decide) ?_
      exact ee_iret rfl dL_set_24
    · refine ⟨25, ⟨⟨by decide, by decide, by decide⟩, _, gw_742, Or.inr ⟨by decide +kernel, ⟨⟨by decide, by decide, by decide⟩, _, gw_743, Or.inr ⟨by decide +kernel, ⟨⟨by decide, by decide, by decide⟩, _, gw_744, Or.inl ⟨gw_854, rfl⟩⟩⟩⟩⟩⟩, fun w9 => ?_⟩
      show EE Γ ML_set 25 [(0, .ref l0), (1, .int l1), (2, .int l2), (3, .int l3), (4, .int l4), (5, .ref l5)] [.float 0] w9 _
      refine ee_astoreE (lv2 := [(6, .float 0), (0, .ref l0), (1, .int l1), (2, .int l2), (3, .int l3), (4, .int l4), (5, .ref l5)]) dL_set_25 (Nat.le_of_ble_eq_true rfl) rfl ?_
      refine ee_iconst (v := (3 : Int32)) dL_set_27 (by decide) ?_
      exact ee_iret rfl dL_set_28
  · refine ee_kI (fun v9 => ?_)
    refine ee_i2l dL_set_12 ?_
    refine ee_last dL_set_13 (fun w13 _ => ?_)
    refine ee_goto (tgt := 29) dL_set_14 (by decide) ?_
    refine ee_iconst (v := (0 : Int32)) dL_set_29 (by decide) ?_
    exact ee_iret rfl dL_set_30
def fL_tilePart (l0 : Nat) (l1 : Int32) (l2 : Nat) (w : PW) : PX := (p_obj w l0 0).bind fun _ => p_callX (fW_tilePart l0 l1 w) (p_kI fun v4 w4 => (p_astJ w4 l2 (0 : Int32) (Int32.toInt64 v4)).bind fun w8 => some (.inl (some (.int (0 : Int32))), w8)) [("java/lang/IndexOutOfBoundsException", fun (w9 : PW) => some (.inl (some (.int (1 : Int32))), w9)), ("java/lang/UnsupportedOperationException", fun (w9 : PW) => some (.inl (some (.int (2 : Int32))), w9))]
set_option maxRecDepth 20000 in
set_option maxHeartbeats 2000000 in
theorem t_fL_tilePart {Γ : PG} : ∀ (l0 : Nat) (l1 : Int32) (l2 : Nat) (w : PW), EE Γ ML_tilePart 0 (lv_args 0 [.ref l0, .int l1, .ref l2]) [] w (fL_tilePart l0 l1 l2 w) := by
  intro l0 l1 l2 w
  unfold fL_tilePart
  show EE Γ ML_tilePart 0 [(0, .ref l0), (1, .int l1), (2, .ref l2)] [] w _
  refine ee_aload_n 2 dL_tilePart_0 rfl ?_
  refine ee_iconst (v := (0 : Int32)) dL_tilePart_1 (by decide) ?_
  refine ee_aload_n 0 dL_tilePart_2 rfl ?_
  refine ee_iload_n 1 dL_tilePart_3 rfl ?_
  refine ee_bind (fun _ ho4 => ?_)
  refine ee_callVX (as := [.int l1]) (st := [.int (0 : Int32), .ref l2]) dL_tilePart_4 (t_fW_tilePart l0 l1 w) my_fW_tilePart.1 (Nat.le_of_ble_eq_true rfl) my_fW_tilePart.2 rfl cf_0.1 rfl (p_obj_eq.mp ho4) gw_882 gw_883 gw_884 ⟨Nat.le_of_ble_eq_true rfl, Nat.le_of_ble_eq_true rfl⟩ (Nat.le_of_ble_eq_true rfl) gw_880 ?_ (fun rv4 w4 _ => ?_)
  · refine List.forall_mem_cons.mpr ⟨?_, List.forall_mem_cons.mpr ⟨?_, fun _ h => absurd h List.not_mem_nil⟩⟩
    · refine ⟨12, ⟨⟨by decide, by decide, by decide⟩, _, gw_742, Or.inl ⟨gw_757, rfl⟩⟩, fun w9 => ?_⟩
      show EE Γ ML_tilePart 12 [(0, .ref l0), (1, .int l1), (2, .ref l2)] [.float 0] w9 _
      refine ee_astore_nE (lv2 := [(3, .float 0), (0, .ref l0), (1, .int l1), (2, .ref l2)]) dL_tilePart_12 (Nat.le_of_ble_eq_true rfl) rfl ?_
      refine ee_iconst (v := (1 : Int32)) dL_tilePart_13 (by decide) ?_
      exact ee_iret rfl dL_tilePart_14
    · refine ⟨15, ⟨⟨by decide, by decide, by decide⟩, _, gw_742, Or.inr ⟨by decide +kernel, ⟨⟨by decide, by decide, by decide⟩, _, gw_881, Or.inl ⟨gw_889, rfl⟩⟩⟩⟩, fun w9 => ?_⟩
      show EE Γ ML_tilePart 15 [(0, .ref l0), (1, .int l1), (2, .ref l2)] [.float 0] w9 _
      refine ee_astore_nE (lv2 := [(3, .float 0), (0, .ref l0), (1, .int l1), (2, .ref l2)]) dL_tilePart_15 (Nat.le_of_ble_eq_true rfl) rfl ?_
      refine ee_iconst (v := (2 : Int32)) dL_tilePart_16 (by decide) ?_
      exact ee_iret rfl dL_tilePart_17
  · refine ee_kI (fun v4 => ?_)
    refine ee_i2l dL_tilePart_7 ?_
    refine ee_last dL_tilePart_8 (fun w8 _ => ?_)
    refine ee_goto (tgt := 18) dL_tilePart_9 (by decide) ?_
    refine ee_iconst (v := (0 : Int32)) dL_tilePart_18 (by decide) ?_
    exact ee_iret rfl dL_tilePart_19
def fL_packet (l0 : Nat) (l1 : Int32) (l2 : Nat) (w : PW) : PX := (p_obj w l0 0).bind fun _ => p_callX (fW_packet l0 l1 w) (p_kI fun v4 w4 => (p_astJ w4 l2 (0 : Int32) (Int32.toInt64 v4)).bind fun w8 => some (.inl (some (.int (0 : Int32))), w8)) [("java/lang/IndexOutOfBoundsException", fun (w9 : PW) => some (.inl (some (.int (1 : Int32))), w9)), ("java/lang/UnsupportedOperationException", fun (w9 : PW) => some (.inl (some (.int (2 : Int32))), w9))]
set_option maxRecDepth 20000 in
set_option maxHeartbeats 2000000 in
theorem t_fL_packet {Γ : PG} : ∀ (l0 : Nat) (l1 : Int32) (l2 : Nat) (w : PW), EE Γ ML_packet 0 (lv_args 0 [.ref l0, .int l1, .ref l2]) [] w (fL_packet l0 l1 l2 w) := by
  intro l0 l1 l2 w
  unfold fL_packet
  show EE Γ ML_packet 0 [(0, .ref l0), (1, .int l1), (2, .ref l2)] [] w _
  refine ee_aload_n 2 dL_packet_0 rfl ?_
  refine ee_iconst (v := (0 : Int32)) dL_packet_1 (by decide) ?_
  refine ee_aload_n 0 dL_packet_2 rfl ?_
  refine ee_iload_n 1 dL_packet_3 rfl ?_
  refine ee_bind (fun _ ho4 => ?_)
  refine ee_callVX (as := [.int l1]) (st := [.int (0 : Int32), .ref l2]) dL_packet_4 (t_fW_packet l0 l1 w) my_fW_packet.1 (Nat.le_of_ble_eq_true rfl) my_fW_packet.2 rfl cf_0.1 rfl (p_obj_eq.mp ho4) gw_998 gw_999 gw_1000 ⟨Nat.le_of_ble_eq_true rfl, Nat.le_of_ble_eq_true rfl⟩ (Nat.le_of_ble_eq_true rfl) gw_997 ?_ (fun rv4 w4 _ => ?_)
  · refine List.forall_mem_cons.mpr ⟨?_, List.forall_mem_cons.mpr ⟨?_, fun _ h => absurd h List.not_mem_nil⟩⟩
    · refine ⟨12, ⟨⟨by decide, by decide, by decide⟩, _, gw_742, Or.inl ⟨gw_757, rfl⟩⟩, fun w9 => ?_⟩
      show EE Γ ML_packet 12 [(0, .ref l0), (1, .int l1), (2, .ref l2)] [.float 0] w9 _
      refine ee_astore_nE (lv2 := [(3, .float 0), (0, .ref l0), (1, .int l1), (2, .ref l2)]) dL_packet_12 (Nat.le_of_ble_eq_true rfl) rfl ?_
      refine ee_iconst (v := (1 : Int32)) dL_packet_13 (by decide) ?_
      exact ee_iret rfl dL_packet_14
    · refine ⟨15, ⟨⟨by decide, by decide, by decide⟩, _, gw_742, Or.inr ⟨by decide +kernel, ⟨⟨by decide, by decide, by decide⟩, _, gw_881, Or.inl ⟨gw_889, rfl⟩⟩⟩⟩, fun w9 => ?_⟩
      show EE Γ ML_packet 15 [(0, .ref l0), (1, .int l1), (2, .ref l2)] [.float 0] w9 _
      refine ee_astore_nE (lv2 := [(3, .float 0), (0, .ref l0), (1, .int l1), (2, .ref l2)]) dL_packet_15 (Nat.le_of_ble_eq_true rfl) rfl ?_
      refine ee_iconst (v := (2 : Int32)) dL_packet_16 (by decide) ?_
      exact ee_iret rfl dL_packet_17
  · refine ee_kI (fun v4 => ?_)
    refine ee_i2l dL_packet_7 ?_
    refine ee_last dL_packet_8 (fun w8 _ => ?_)
    refine ee_goto (tgt := 18) dL_packet_9 (by decide) ?_
    refine ee_iconst (v := (0 : Int32)) dL_packet_18 (by decide) ?_
    exact ee_iret rfl dL_packet_19
def fL_byteOf (l0 : Nat) (l1 : Int32) (l2 : Int32) (l3 : Nat) (w : PW) : PX := (p_obj w l0 0).bind fun _ => p_callX (fW_byteOf l0 l1 l2 w) (p_kI fun v5 w5 => (p_astJ w5 l3 (0 : Int32) (Int32.toInt64 v5)).bind fun w9 => some (.inl (some (.int (0 : Int32))), w9)) [("java/lang/IndexOutOfBoundsException", fun (w9 : PW) => some (.inl (some (.int (1 : Int32))), w9)), ("java/lang/IllegalStateException", fun (w9 : PW) => some (.inl (some (.int (2 : Int32))), w9)), ("java/lang/IllegalArgumentException", fun (w9 : PW) => some (.inl (some (.int (3 : Int32))), w9)), ("java/lang/UnsupportedOperationException", fun (w9 : PW) => some (.inl (some (.int (4 : Int32))), w9))]
set_option maxRecDepth 20000 in
set_option maxHeartbeats 2000000 in
theorem t_fL_byteOf {Γ : PG} : ∀ (l0 : Nat) (l1 : Int32) (l2 : Int32) (l3 : Nat) (w : PW), EE Γ ML_byteOf 0 (lv_args 0 [.ref l0, .int l1, .int l2, .ref l3]) [] w (fL_byteOf l0 l1 l2 l3 w) := by
  intro l0 l1 l2 l3 w
  unfold fL_byteOf
  show EE Γ ML_byteOf 0 [(0, .ref l0), (1, .int l1), (2, .int l2), (3, .ref l3)] [] w _
  refine ee_aload_n 3 dL_byteOf_0 rfl ?_
  refine ee_iconst (v := (0 : Int32)) dL_byteOf_1 (by decide) ?_
  refine ee_aload_n 0 dL_byteOf_2 rfl ?_
  refine ee_iload_n 1 dL_byteOf_3 rfl ?_
  refine ee_iload_n 2 dL_byteOf_4 rfl ?_
  refine ee_bind (fun _ ho5 => ?_)
  refine ee_callVX (as := [.int l1, .int l2]) (st := [.int (0 : Int32), .ref l3]) dL_byteOf_5 (t_fW_byteOf l0 l1 l2 w) my_fW_byteOf.1 (Nat.le_of_ble_eq_true rfl) my_fW_byteOf.2 rfl cf_0.1 rfl (p_obj_eq.mp ho5) gw_1007 gw_1008 gw_1009 ⟨Nat.le_of_ble_eq_true rfl, Nat.le_of_ble_eq_true rfl⟩ (Nat.le_of_ble_eq_true rfl) gw_1006 ?_ (fun rv5 w5 _ => ?_)
  · refine List.forall_mem_cons.mpr ⟨?_, List.forall_mem_cons.mpr ⟨?_, List.forall_mem_cons.mpr ⟨?_, List.forall_mem_cons.mpr ⟨?_, fun _ h => absurd h List.not_mem_nil⟩⟩⟩⟩
    · refine ⟨13, ⟨⟨by decide, by decide, by decide⟩, _, gw_742, Or.inl ⟨gw_757, rfl⟩⟩, fun w9 => ?_⟩
      show EE Γ ML_byteOf 13 [(0, .ref l0), (1, .int l1), (2, .int l2), (3, .ref l3)] [.float 0] w9 _
      refine ee_astoreE (lv2 := [(4, .float 0), (0, .ref l0), (1, .int l1), (2, .int l2), (3, .ref l3)]) dL_byteOf_13 (Nat.le_of_ble_eq_true rfl) rfl ?_
      refine ee_iconst (v := (1 : Int32)) dL_byteOf_15 (by decide) ?_
      exact ee_iret rfl dL_byteOf_16
    · refine ⟨17, ⟨⟨by decide, by decide, by decide⟩, _, gw_742, Or.inr ⟨by decide +kernel, ⟨⟨by decide, by decide, by decide⟩, _, gw_743, Or.inl ⟨gw_833, rfl⟩⟩⟩⟩, fun w9 => ?_⟩
      show EE Γ ML_byteOf 17 [(0, .ref l0), (1, .int l1), (2, .int l2), (3, .ref l3)] [.float 0] w9 _
      refine ee_astoreE (lv2 := [(4, .float 0), (0, .ref l0), (1, .int l1), (2, .int l2), (3, .ref l3)]) dL_byteOf_17 (Nat.le_of_ble_eq_true rfl) rfl ?_
      refine ee_iconst (v := (2 : Int32)) dL_byteOf_19 (by decide) ?_
      exact ee_iret rfl dL_byteOf_20
    · refine ⟨21, ⟨⟨by decide, by decide, by decide⟩, _, gw_742, Or.inr ⟨by decide +kernel, ⟨⟨by decide, by decide, by decide⟩, _, gw_743, Or.inr ⟨by decide +kernel, ⟨⟨by decide, by decide, by decide⟩, _, gw_744, Or.inl ⟨gw_854, rfl⟩⟩⟩⟩⟩⟩, fun w9 => ?_⟩
      show EE Γ ML_byteOf 21 [(0, .ref l0), (1, .int l1), (2, .int l2), (3, .ref l3)] [.float 0] w9 _
      refine ee_astoreE (lv2 := [(4, .float 0), (0, .ref l0), (1, .int l1), (2, .int l2), (3, .ref l3)]) dL_byteOf_21 (Nat.le_of_ble_eq_true rfl) rfl ?_
      refine ee_iconst (v := (3 : Int32)) dL_byteOf_23 (by decide) ?_
      exact ee_iret rfl dL_byteOf_24
    · refine ⟨25, ⟨⟨by decide, by decide, by decide⟩, _, gw_742, Or.inr ⟨by decide +kernel, ⟨⟨by decide, by decide, by decide⟩, _, gw_743, Or.inr ⟨by decide +kernel, ⟨⟨by decide, by decide, by decide⟩, _, gw_744, Or.inr ⟨by decide +kernel, ⟨⟨by decide, by decide, by decide⟩, _, gw_881, Or.inl ⟨gw_889, rfl⟩⟩⟩⟩⟩⟩⟩⟩, fun w9 => ?_⟩
      show EE Γ ML_byteOf 25 [(0, .ref l0), (1, .int l1), (2, .int l2), (3, .ref l3)] [.float 0] w9 _
      refine ee_astoreE (lv2 := [(4, .float 0), (0, .ref l0), (1, .int l1), (2, .int l2), (3, .ref l3)]) dL_byteOf_25 (Nat.le_of_ble_eq_true rfl) rfl ?_
      refine ee_iconst (v := (4 : Int32)) dL_byteOf_27 (by decide) ?_
      exact ee_iret rfl dL_byteOf_28
  · refine ee_kI (fun v5 => ?_)
    refine ee_i2l dL_byteOf_8 ?_
    refine ee_last dL_byteOf_9 (fun w9 _ => ?_)
    refine ee_goto (tgt := 29) dL_byteOf_10 (by decide) ?_
    refine ee_iconst (v := (0 : Int32)) dL_byteOf_29 (by decide) ?_
    exact ee_iret rfl dL_byteOf_30
def fL_box (l0 : Nat) (l1 : Int32) (l2 : Int32) (l3 : Nat) (w : PW) : PX := (p_obj w l0 0).bind fun _ => p_callX (fW_box l0 l1 l2 w) (p_kI fun v5 w5 => (p_astJ w5 l3 (0 : Int32) (Int32.toInt64 v5)).bind fun w9 => some (.inl (some (.int (0 : Int32))), w9)) [("java/lang/IllegalArgumentException", fun (w9 : PW) => some (.inl (some (.int (1 : Int32))), w9)), ("java/lang/UnsupportedOperationException", fun (w9 : PW) => some (.inl (some (.int (2 : Int32))), w9))]
set_option maxRecDepth 20000 in
set_option maxHeartbeats 2000000 in
theorem t_fL_box {Γ : PG} : ∀ (l0 : Nat) (l1 : Int32) (l2 : Int32) (l3 : Nat) (w : PW), EE Γ ML_box 0 (lv_args 0 [.ref l0, .int l1, .int l2, .ref l3]) [] w (fL_box l0 l1 l2 l3 w) := by
  intro l0 l1 l2 l3 w
  unfold fL_box
  show EE Γ ML_box 0 [(0, .ref l0), (1, .int l1), (2, .int l2), (3, .ref l3)] [] w _
  refine ee_aload_n 3 dL_box_0 rfl ?_
  refine ee_iconst (v := (0 : Int32)) dL_box_1 (by decide) ?_
  refine ee_aload_n 0 dL_box_2 rfl ?_
  refine ee_iload_n 1 dL_box_3 rfl ?_
  refine ee_iload_n 2 dL_box_4 rfl ?_
  refine ee_bind (fun _ ho5 => ?_)
  refine ee_callVX (as := [.int l1, .int l2]) (st := [.int (0 : Int32), .ref l3]) dL_box_5 (t_fW_box l0 l1 l2 w) my_fW_box.1 (Nat.le_of_ble_eq_true rfl) my_fW_box.2 rfl cf_0.1 rfl (p_obj_eq.mp ho5) gw_1025 gw_1026 gw_1027 ⟨Nat.le_of_ble_eq_true rfl, Nat.le_of_ble_eq_true rfl⟩ (Nat.le_of_ble_eq_true rfl) gw_1024 ?_ (fun rv5 w5 _ => ?_)
  · refine List.forall_mem_cons.mpr ⟨?_, List.forall_mem_cons.mpr ⟨?_, fun _ h => absurd h List.not_mem_nil⟩⟩
    · refine ⟨13, ⟨⟨by decide, by decide, by decide⟩, _, gw_744, Or.inl ⟨gw_854, rfl⟩⟩, fun w9 => ?_⟩
      show EE Γ ML_box 13 [(0, .ref l0), (1, .int l1), (2, .int l2), (3, .ref l3)] [.float 0] w9 _
      refine ee_astoreE (lv2 := [(4, .float 0), (0, .ref l0), (1, .int l1), (2, .int l2), (3, .ref l3)]) dL_box_13 (Nat.le_of_ble_eq_true rfl) rfl ?_
      refine ee_iconst (v := (1 : Int32)) dL_box_15 (by decide) ?_
      exact ee_iret rfl dL_box_16
    · refine ⟨17, ⟨⟨by decide, by decide, by decide⟩, _, gw_744, Or.inr ⟨by decide +kernel, ⟨⟨by decide, by decide, by decide⟩, _, gw_881, Or.inl ⟨gw_889, rfl⟩⟩⟩⟩, fun w9 => ?_⟩
      show EE Γ ML_box 17 [(0, .ref l0), (1, .int l1), (2, .int l2), (3, .ref l3)] [.float 0] w9 _
      refine ee_astoreE (lv2 := [(4, .float 0), (0, .ref l0), (1, .int l1), (2, .int l2), (3, .ref l3)]) dL_box_17 (Nat.le_of_ble_eq_true rfl) rfl ?_
      refine ee_iconst (v := (2 : Int32)) dL_box_19 (by decide) ?_
      exact ee_iret rfl dL_box_20
  · refine ee_kI (fun v5 => ?_)
    refine ee_i2l dL_box_8 ?_
    refine ee_last dL_box_9 (fun w9 _ => ?_)
    refine ee_goto (tgt := 21) dL_box_10 (by decide) ?_
    refine ee_iconst (v := (0 : Int32)) dL_box_21 (by decide) ?_
    exact ee_iret rfl dL_box_22
def fL_boxByte (l0 : Nat) (l1 : Int32) (l2 : Int32) (l3 : Nat) (w : PW) : PX := (p_obj w l0 0).bind fun _ => p_callX (fW_boxByte l0 l1 l2 w) (p_kI fun v5 w5 => (p_astJ w5 l3 (0 : Int32) (Int32.toInt64 v5)).bind fun w9 => some (.inl (some (.int (0 : Int32))), w9)) [("java/lang/IndexOutOfBoundsException", fun (w9 : PW) => some (.inl (some (.int (1 : Int32))), w9)), ("java/lang/IllegalArgumentException", fun (w9 : PW) => some (.inl (some (.int (2 : Int32))), w9)), ("java/lang/UnsupportedOperationException", fun (w9 : PW) => some (.inl (some (.int (3 : Int32))), w9))]
set_option maxRecDepth 20000 in
set_option maxHeartbeats 2000000 in
theorem t_fL_boxByte {Γ : PG} : ∀ (l0 : Nat) (l1 : Int32) (l2 : Int32) (l3 : Nat) (w : PW), EE Γ ML_boxByte 0 (lv_args 0 [.ref l0, .int l1, .int l2, .ref l3]) [] w (fL_boxByte l0 l1 l2 l3 w) := by
  intro l0 l1 l2 l3 w
  unfold fL_boxByte
  show EE Γ ML_boxByte 0 [(0, .ref l0), (1, .int l1), (2, .int l2), (3, .ref l3)] [] w _
  refine ee_aload_n 3 dL_boxByte_0 rfl ?_
  refine ee_iconst (v := (0 : Int32)) dL_boxByte_1 (by decide) ?_
  refine ee_aload_n 0 dL_boxByte_2 rfl ?_
  refine ee_iload_n 1 dL_boxByte_3 rfl ?_
  refine ee_iload_n 2 dL_boxByte_4 rfl ?_
  refine ee_bind (fun _ ho5 => ?_)
  refine ee_callVX (as := [.int l1, .int l2]) (st := [.int (0 : Int32), .ref l3]) dL_boxByte_5 (t_fW_boxByte l0 l1 l2 w) my_fW_boxByte.1 (Nat.le_of_ble_eq_true rfl) my_fW_boxByte.2 rfl cf_0.1 rfl (p_obj_eq.mp ho5) gw_1067 gw_1068 gw_1069 ⟨Nat.le_of_ble_eq_true rfl, Nat.le_of_ble_eq_true rfl⟩ (Nat.le_of_ble_eq_true rfl) gw_1066 ?_ (fun rv5 w5 _ => ?_)
  · refine List.forall_mem_cons.mpr ⟨?_, List.forall_mem_cons.mpr ⟨?_, List.forall_mem_cons.mpr ⟨?_, fun _ h => absurd h List.not_mem_nil⟩⟩⟩
    · refine ⟨13, ⟨⟨by decide, by decide, by decide⟩, _, gw_742, Or.inl ⟨gw_757, rfl⟩⟩, fun w9 => ?_⟩
      show EE Γ ML_boxByte 13 [(0, .ref l0), (1, .int l1), (2, .int l2), (3, .ref l3)] [.float 0] w9 _
      refine ee_astoreE (lv2 := [(4, .float 0), (0, .ref l0), (1, .int l1), (2, .int l2), (3, .ref l3)]) dL_boxByte_13 (Nat.le_of_ble_eq_true rfl) rfl ?_
      refine ee_iconst (v := (1 : Int32)) dL_boxByte_15 (by decide) ?_
      exact ee_iret rfl dL_boxByte_16
    · refine ⟨17, ⟨⟨by decide, by decide, by decide⟩, _, gw_742, Or.inr ⟨by decide +kernel, ⟨⟨by decide, by decide, by decide⟩, _, gw_744, Or.inl ⟨gw_854, rfl⟩⟩⟩⟩, fun w9 => ?_⟩
      show EE Γ ML_boxByte 17 [(0, .ref l0), (1, .int l1), (2, .int l2), (3, .ref l3)] [.float 0] w9 _
      refine ee_astoreE (lv2 := [(4, .float 0), (0, .ref l0), (1, .int l1), (2, .int l2), (3, .ref l3)]) dL_boxByte_17 (Nat.le_of_ble_eq_true rfl) rfl ?_
      refine ee_iconst (v := (2 : Int32)) dL_boxByte_19 (by decide) ?_
      exact ee_iret rfl dL_boxByte_20
    · refine ⟨21, ⟨⟨by decide, by decide, by decide⟩, _, gw_742, Or.inr ⟨by decide +kernel, ⟨⟨by decide, by decide, by decide⟩, _, gw_744, Or.inr ⟨by decide +kernel, ⟨⟨by decide, by decide, by decide⟩, _, gw_881, Or.inl ⟨gw_889, rfl⟩⟩⟩⟩⟩⟩, fun w9 => ?_⟩
      show EE Γ ML_boxByte 21 [(0, .ref l0), (1, .int l1), (2, .int l2), (3, .ref l3)] [.float 0] w9 _
      refine ee_astoreE (lv2 := [(4, .float 0), (0, .ref l0), (1, .int l1), (2, .int l2), (3, .ref l3)]) dL_boxByte_21 (Nat.le_of_ble_eq_true rfl) rfl ?_
      refine ee_iconst (v := (3 : Int32)) dL_boxByte_23 (by decide) ?_
      exact ee_iret rfl dL_boxByte_24
  · refine ee_kI (fun v5 => ?_)
    refine ee_i2l dL_boxByte_8 ?_
    refine ee_last dL_boxByte_9 (fun w9 _ => ?_)
    refine ee_goto (tgt := 25) dL_boxByte_10 (by decide) ?_
    refine ee_iconst (v := (0 : Int32)) dL_boxByte_25 (by decide) ?_
    exact ee_iret rfl dL_boxByte_26
def fL_byteAt (l0 : Nat) (l1 : Int32) (l2 : Nat) (w : PW) : PX := (p_obj w l0 0).bind fun _ => p_callX (fW_byteAt l0 l1 w) (p_kI fun v4 w4 => (p_astJ w4 l2 (0 : Int32) (Int32.toInt64 v4)).bind fun w8 => some (.inl (some (.int (0 : Int32))), w8)) [("java/lang/IndexOutOfBoundsException", fun (w9 : PW) => some (.inl (some (.int (1 : Int32))), w9))]
set_option maxRecDepth 20000 in
set_option maxHeartbeats 2000000 in
theorem t_fL_byteAt {Γ : PG} : ∀ (l0 : Nat) (l1 : Int32) (l2 : Nat) (w : PW), EE Γ ML_byteAt 0 (lv_args 0 [.ref l0, .int l1, .ref l2]) [] w (fL_byteAt l0 l1 l2 w) := by
  intro l0 l1 l2 w
  unfold fL_byteAt
  show EE Γ ML_byteAt 0 [(0, .ref l0), (1, .int l1), (2, .ref l2)] [] w _
  refine ee_aload_n 2 dL_byteAt_0 rfl ?_
  refine ee_iconst (v := (0 : Int32)) dL_byteAt_1 (by decide) ?_
  refine ee_aload_n 0 dL_byteAt_2 rfl ?_
  refine ee_iload_n 1 dL_byteAt_3 rfl ?_
  refine ee_bind (fun _ ho4 => ?_)
  refine ee_callVX (as := [.int l1]) (st := [.int (0 : Int32), .ref l2]) dL_byteAt_4 (t_fW_byteAt l0 l1 w) my_fW_byteAt.1 (Nat.le_of_ble_eq_true rfl) my_fW_byteAt.2 rfl cf_0.1 rfl (p_obj_eq.mp ho4) gw_1076 gw_1077 gw_1078 ⟨Nat.le_of_ble_eq_true rfl, Nat.le_of_ble_eq_true rfl⟩ (Nat.le_of_ble_eq_true rfl) gw_1075 ?_ (fun rv4 w4 _ => ?_)
  · refine List.forall_mem_cons.mpr ⟨?_, fun _ h => absurd h List.not_mem_nil⟩
    · refine ⟨12, ⟨⟨by decide, by decide, by decide⟩, _, gw_742, Or.inl ⟨gw_757, rfl⟩⟩, fun w9 => ?_⟩
      show EE Γ ML_byteAt 12 [(0, .ref l0), (1, .int l1), (2, .ref l2)] [.float 0] w9 _
      refine ee_astore_nE (lv2 := [(3, .float 0), (0, .ref l0), (1, .int l1), (2, .ref l2)]) dL_byteAt_12 (Nat.le_of_ble_eq_true rfl) rfl ?_
      refine ee_iconst (v := (1 : Int32)) dL_byteAt_13 (by decide) ?_
      exact ee_iret rfl dL_byteAt_14
  · refine ee_kI (fun v4 => ?_)
    refine ee_i2l dL_byteAt_7 ?_
    refine ee_last dL_byteAt_8 (fun w8 _ => ?_)
    refine ee_goto (tgt := 15) dL_byteAt_9 (by decide) ?_
    refine ee_iconst (v := (0 : Int32)) dL_byteAt_15 (by decide) ?_
    exact ee_iret rfl dL_byteAt_16
def fL_feed (l0 : Nat) (l1 : Int32) (l2 : Nat) (w : PW) : PX := (p_obj w l0 0).bind fun _ => p_callX (fW_feed l0 l1 w) (p_kI fun v4 w4 => (p_astJ w4 l2 (0 : Int32) (Int32.toInt64 v4)).bind fun w8 => some (.inl (some (.int (0 : Int32))), w8)) [("java/lang/IllegalArgumentException", fun (w9 : PW) => some (.inl (some (.int (1 : Int32))), w9)), ("java/lang/UnsupportedOperationException", fun (w9 : PW) => some (.inl (some (.int (2 : Int32))), w9))]
set_option maxRecDepth 20000 in
set_option maxHeartbeats 2000000 in
theorem t_fL_feed {Γ : PG} : ∀ (l0 : Nat) (l1 : Int32) (l2 : Nat) (w : PW), EE Γ ML_feed 0 (lv_args 0 [.ref l0, .int l1, .ref l2]) [] w (fL_feed l0 l1 l2 w) := by
  intro l0 l1 l2 w
  unfold fL_feed
  show EE Γ ML_feed 0 [(0, .ref l0), (1, .int l1), (2, .ref l2)] [] w _
  refine ee_aload_n 2 dL_feed_0 rfl ?_
  refine ee_iconst (v := (0 : Int32)) dL_feed_1 (by decide) ?_
  refine ee_aload_n 0 dL_feed_2 rfl ?_
  refine ee_iload_n 1 dL_feed_3 rfl ?_
  refine ee_bind (fun _ ho4 => ?_)
  refine ee_callVX (as := [.int l1]) (st := [.int (0 : Int32), .ref l2]) dL_feed_4 (t_fW_feed l0 l1 w) my_fW_feed.1 (Nat.le_of_ble_eq_true rfl) my_fW_feed.2 rfl cf_0.1 rfl (p_obj_eq.mp ho4) gw_1085 gw_1086 gw_1087 ⟨Nat.le_of_ble_eq_true rfl, Nat.le_of_ble_eq_true rfl⟩ (Nat.le_of_ble_eq_true rfl) gw_1084 ?_ (fun rv4 w4 _ => ?_)
  · refine List.forall_mem_cons.mpr ⟨?_, List.forall_mem_cons.mpr ⟨?_, fun _ h => absurd h List.not_mem_nil⟩⟩
    · refine ⟨12, ⟨⟨by decide, by decide, by decide⟩, _, gw_744, Or.inl ⟨gw_854, rfl⟩⟩, fun w9 => ?_⟩
      show EE Γ ML_feed 12 [(0, .ref l0), (1, .int l1), (2, .ref l2)] [.float 0] w9 _
      refine ee_astore_nE (lv2 := [(3, .float 0), (0, .ref l0), (1, .int l1), (2, .ref l2)]) dL_feed_12 (Nat.le_of_ble_eq_true rfl) rfl ?_
      refine ee_iconst (v := (1 : Int32)) dL_feed_13 (by decide) ?_
      exact ee_iret rfl dL_feed_14
    · refine ⟨15, ⟨⟨by decide, by decide, by decide⟩, _, gw_744, Or.inr ⟨by decide +kernel, ⟨⟨by decide, by decide, by decide⟩, _, gw_881, Or.inl ⟨gw_889, rfl⟩⟩⟩⟩, fun w9 => ?_⟩
      show EE Γ ML_feed 15 [(0, .ref l0), (1, .int l1), (2, .ref l2)] [.float 0] w9 _
      refine ee_astore_nE (lv2 := [(3, .float 0), (0, .ref l0), (1, .int l1), (2, .ref l2)]) dL_feed_15 (Nat.le_of_ble_eq_true rfl) rfl ?_
      refine ee_iconst (v := (2 : Int32)) dL_feed_16 (by decide) ?_
      exact ee_iret rfl dL_feed_17
  · refine ee_kI (fun v4 => ?_)
    refine ee_i2l dL_feed_7 ?_
    refine ee_last dL_feed_8 (fun w8 _ => ?_)
    refine ee_goto (tgt := 18) dL_feed_9 (by decide) ?_
    refine ee_iconst (v := (0 : Int32)) dL_feed_18 (by decide) ?_
    exact ee_iret rfl dL_feed_19
def fL_pass (l0 : Nat) (l1 : Int32) (l2 : Int32) (l3 : Nat) (w : PW) : PX := (p_obj w l0 0).bind fun _ => p_callX (fW_pass l0 l1 l2 w) (p_kI fun v5 w5 => (p_astJ w5 l3 (0 : Int32) (Int32.toInt64 v5)).bind fun w9 => some (.inl (some (.int (0 : Int32))), w9)) [("java/lang/IndexOutOfBoundsException", fun (w9 : PW) => some (.inl (some (.int (1 : Int32))), w9)), ("java/lang/IllegalArgumentException", fun (w9 : PW) => some (.inl (some (.int (2 : Int32))), w9)), ("java/lang/UnsupportedOperationException", fun (w9 : PW) => some (.inl (some (.int (3 : Int32))), w9))]
set_option maxRecDepth 20000 in
set_option maxHeartbeats 2000000 in
theorem t_fL_pass {Γ : PG} : ∀ (l0 : Nat) (l1 : Int32) (l2 : Int32) (l3 : Nat) (w : PW), EE Γ ML_pass 0 (lv_args 0 [.ref l0, .int l1, .int l2, .ref l3]) [] w (fL_pass l0 l1 l2 l3 w) := by
  intro l0 l1 l2 l3 w
  unfold fL_pass
  show EE Γ ML_pass 0 [(0, .ref l0), (1, .int l1), (2, .int l2), (3, .ref l3)] [] w _
  refine ee_aload_n 3 dL_pass_0 rfl ?_
  refine ee_iconst (v := (0 : Int32)) dL_pass_1 (by decide) ?_
  refine ee_aload_n 0 dL_pass_2 rfl ?_
  refine ee_iload_n 1 dL_pass_3 rfl ?_
  refine ee_iload_n 2 dL_pass_4 rfl ?_
  refine ee_bind (fun _ ho5 => ?_)
  refine ee_callVX (as := [.int l1, .int l2]) (st := [.int (0 : Int32), .ref l3]) dL_pass_5 (t_fW_pass l0 l1 l2 w) my_fW_pass.1 (Nat.le_of_ble_eq_true rfl) my_fW_pass.2 rfl cf_0.1 rfl (p_obj_eq.mp ho5) gw_1092 gw_1093 gw_1094 ⟨Nat.le_of_ble_eq_true rfl, Nat.le_of_ble_eq_true rfl⟩ (Nat.le_of_ble_eq_true rfl) gw_1091 ?_ (fun rv5 w5 _ => ?_)
  · refine List.forall_mem_cons.mpr ⟨?_, List.forall_mem_cons.mpr ⟨?_, List.forall_mem_cons.mpr ⟨?_, fun _ h => absurd h List.not_mem_nil⟩⟩⟩
    · refine ⟨13, ⟨⟨by decide, by decide, by decide⟩, _, gw_742, Or.inl ⟨gw_757, rfl⟩⟩, fun w9 => ?_⟩
      show EE Γ ML_pass 13 [(0, .ref l0), (1, .int l1), (2, .int l2), (3, .ref l3)] [.float 0] w9 _
      refine ee_astoreE (lv2 := [(4, .float 0), (0, .ref l0), (1, .int l1), (2, .int l2), (3, .ref l3)]) dL_pass_13 (Nat.le_of_ble_eq_true rfl) rfl ?_
      refine ee_iconst (v := (1 : Int32)) dL_pass_15 (by decide) ?_
      exact ee_iret rfl dL_pass_16
    · refine ⟨17, ⟨⟨by decide, by decide, by decide⟩, _, gw_742, Or.inr ⟨by decide +kernel, ⟨⟨by decide, by decide, by decide⟩, _, gw_744, Or.inl ⟨gw_854, rfl⟩⟩⟩⟩, fun w9 => ?_⟩
      show EE Γ ML_pass 17 [(0, .ref l0), (1, .int l1), (2, .int l2), (3, .ref l3)] [.float 0] w9 _
      refine ee_astoreE (lv2 := [(4, .float 0), (0, .ref l0), (1, .int l1), (2, .int l2), (3, .ref l3)]) dL_pass_17 (Nat.le_of_ble_eq_true rfl) rfl ?_
      refine ee_iconst (v := (2 : Int32)) dL_pass_19 (by decide) ?_
      exact ee_iret rfl dL_pass_20
    · refine ⟨21, ⟨⟨by decide, by decide, by decide⟩, _, gw_742, Or.inr ⟨by decide +kernel, ⟨⟨by decide, by decide, by decide⟩, _, gw_744, Or.inr ⟨by decide +kernel, ⟨⟨by decide, by decide, by decide⟩, _, gw_881, Or.inl ⟨gw_889, rfl⟩⟩⟩⟩⟩⟩, fun w9 => ?_⟩
      show EE Γ ML_pass 21 [(0, .ref l0), (1, .int l1), (2, .int l2), (3, .ref l3)] [.float 0] w9 _
      refine ee_astoreE (lv2 := [(4, .float 0), (0, .ref l0), (1, .int l1), (2, .int l2), (3, .ref l3)]) dL_pass_21 (Nat.le_of_ble_eq_true rfl) rfl ?_
      refine ee_iconst (v := (3 : Int32)) dL_pass_23 (by decide) ?_
      exact ee_iret rfl dL_pass_24
  · refine ee_kI (fun v5 => ?_)
    refine ee_i2l dL_pass_8 ?_
    refine ee_last dL_pass_9 (fun w9 _ => ?_)
    refine ee_goto (tgt := 25) dL_pass_10 (by decide) ?_
    refine ee_iconst (v := (0 : Int32)) dL_pass_25 (by decide) ?_
    exact ee_iret rfl dL_pass_26
def fL_alter (l0 : Nat) (l1 : Int32) (l2 : Int32) (l3 : Nat) (w : PW) : PX := (p_obj w l0 0).bind fun _ => p_callX (fW_alter l0 l1 l2 w) (p_kI fun v5 w5 => (p_astJ w5 l3 (0 : Int32) (Int32.toInt64 v5)).bind fun w9 => some (.inl (some (.int (0 : Int32))), w9)) [("java/lang/IndexOutOfBoundsException", fun (w9 : PW) => some (.inl (some (.int (1 : Int32))), w9)), ("java/lang/IllegalArgumentException", fun (w9 : PW) => some (.inl (some (.int (2 : Int32))), w9))]
set_option maxRecDepth 20000 in
set_option maxHeartbeats 2000000 in
theorem t_fL_alter {Γ : PG} : ∀ (l0 : Nat) (l1 : Int32) (l2 : Int32) (l3 : Nat) (w : PW), EE Γ ML_alter 0 (lv_args 0 [.ref l0, .int l1, .int l2, .ref l3]) [] w (fL_alter l0 l1 l2 l3 w) := by
  intro l0 l1 l2 l3 w
  unfold fL_alter
  show EE Γ ML_alter 0 [(0, .ref l0), (1, .int l1), (2, .int l2), (3, .ref l3)] [] w _
  refine ee_aload_n 3 dL_alter_0 rfl ?_
  refine ee_iconst (v := (0 : Int32)) dL_alter_1 (by decide) ?_
  refine ee_aload_n 0 dL_alter_2 rfl ?_
  refine ee_iload_n 1 dL_alter_3 rfl ?_
  refine ee_iload_n 2 dL_alter_4 rfl ?_
  refine ee_bind (fun _ ho5 => ?_)
  refine ee_callVX (as := [.int l1, .int l2]) (st := [.int (0 : Int32), .ref l3]) dL_alter_5 (t_fW_alter l0 l1 l2 w) my_fW_alter.1 (Nat.le_of_ble_eq_true rfl) my_fW_alter.2 rfl cf_0.1 rfl (p_obj_eq.mp ho5) gw_1101 gw_1102 gw_1103 ⟨Nat.le_of_ble_eq_true rfl, Nat.le_of_ble_eq_true rfl⟩ (Nat.le_of_ble_eq_true rfl) gw_1100 ?_ (fun rv5 w5 _ => ?_)
  · refine List.forall_mem_cons.mpr ⟨?_, List.forall_mem_cons.mpr ⟨?_, fun _ h => absurd h List.not_mem_nil⟩⟩
    · refine ⟨13, ⟨⟨by decide, by decide, by decide⟩, _, gw_742, Or.inl ⟨gw_757, rfl⟩⟩, fun w9 => ?_⟩
      show EE Γ ML_alter 13 [(0, .ref l0), (1, .int l1), (2, .int l2), (3, .ref l3)] [.float 0] w9 _
      refine ee_astoreE (lv2 := [(4, .float 0), (0, .ref l0), (1, .int l1), (2, .int l2), (3, .ref l3)]) dL_alter_13 (Nat.le_of_ble_eq_true rfl) rfl ?_
      refine ee_iconst (v := (1 : Int32)) dL_alter_15 (by decide) ?_
      exact ee_iret rfl dL_alter_16
    · refine ⟨17, ⟨⟨by decide, by decide, by decide⟩, _, gw_742, Or.inr ⟨by decide +kernel, ⟨⟨by decide, by decide, by decide⟩, _, gw_744, Or.inl ⟨gw_854, rfl⟩⟩⟩⟩, fun w9 => ?_⟩
      show EE Γ ML_alter 17 [(0, .ref l0), (1, .int l1), (2, .int l2), (3, .ref l3)] [.float 0] w9 _
      refine ee_astoreE (lv2 := [(4, .float 0), (0, .ref l0), (1, .int l1), (2, .int l2), (3, .ref l3)]) dL_alter_17 (Nat.le_of_ble_eq_true rfl) rfl ?_
      refine ee_iconst (v := (2 : Int32)) dL_alter_19 (by decide) ?_
      exact ee_iret rfl dL_alter_20
  · refine ee_kI (fun v5 => ?_)
    refine ee_i2l dL_alter_8 ?_
    refine ee_last dL_alter_9 (fun w9 _ => ?_)
    refine ee_goto (tgt := 21) dL_alter_10 (by decide) ?_
    refine ee_iconst (v := (0 : Int32)) dL_alter_21 (by decide) ?_
    exact ee_iret rfl dL_alter_22
def fL_cut (l0 : Nat) (l1 : Int32) (l2 : Nat) (w : PW) : PX := (p_obj w l0 0).bind fun _ => p_callX (fW_cut l0 l1 w) (p_kI fun v4 w4 => (p_astJ w4 l2 (0 : Int32) (Int32.toInt64 v4)).bind fun w8 => some (.inl (some (.int (0 : Int32))), w8)) [("java/lang/IllegalArgumentException", fun (w9 : PW) => some (.inl (some (.int (1 : Int32))), w9))]
set_option maxRecDepth 20000 in
set_option maxHeartbeats 2000000 in
theorem t_fL_cut {Γ : PG} : ∀ (l0 : Nat) (l1 : Int32) (l2 : Nat) (w : PW), EE Γ ML_cut 0 (lv_args 0 [.ref l0, .int l1, .ref l2]) [] w (fL_cut l0 l1 l2 w) := by
  intro l0 l1 l2 w
  unfold fL_cut
  show EE Γ ML_cut 0 [(0, .ref l0), (1, .int l1), (2, .ref l2)] [] w _
  refine ee_aload_n 2 dL_cut_0 rfl ?_
  refine ee_iconst (v := (0 : Int32)) dL_cut_1 (by decide) ?_
  refine ee_aload_n 0 dL_cut_2 rfl ?_
  refine ee_iload_n 1 dL_cut_3 rfl ?_
  refine ee_bind (fun _ ho4 => ?_)
  refine ee_callVX (as := [.int l1]) (st := [.int (0 : Int32), .ref l2]) dL_cut_4 (t_fW_cut l0 l1 w) my_fW_cut.1 (Nat.le_of_ble_eq_true rfl) my_fW_cut.2 rfl cf_0.1 rfl (p_obj_eq.mp ho4) gw_1109 gw_1110 gw_1111 ⟨Nat.le_of_ble_eq_true rfl, Nat.le_of_ble_eq_true rfl⟩ (Nat.le_of_ble_eq_true rfl) gw_1108 ?_ (fun rv4 w4 _ => ?_)
  · refine List.forall_mem_cons.mpr ⟨?_, fun _ h => absurd h List.not_mem_nil⟩
    · refine ⟨12, ⟨⟨by decide, by decide, by decide⟩, _, gw_744, Or.inl ⟨gw_854, rfl⟩⟩, fun w9 => ?_⟩
      show EE Γ ML_cut 12 [(0, .ref l0), (1, .int l1), (2, .ref l2)] [.float 0] w9 _
      refine ee_astore_nE (lv2 := [(3, .float 0), (0, .ref l0), (1, .int l1), (2, .ref l2)]) dL_cut_12 (Nat.le_of_ble_eq_true rfl) rfl ?_
      refine ee_iconst (v := (1 : Int32)) dL_cut_13 (by decide) ?_
      exact ee_iret rfl dL_cut_14
  · refine ee_kI (fun v4 => ?_)
    refine ee_i2l dL_cut_7 ?_
    refine ee_last dL_cut_8 (fun w8 _ => ?_)
    refine ee_goto (tgt := 15) dL_cut_9 (by decide) ?_
    refine ee_iconst (v := (0 : Int32)) dL_cut_15 (by decide) ?_
    exact ee_iret rfl dL_cut_16
def fL_at (l0 : Nat) (l1 : Int32) (l2 : Int32) (l3 : Int32) (l4 : Nat) (w : PW) : PX := (p_obj w l0 0).bind fun _ => p_callX (fW_at l0 l1 l2 l3 w) (p_kI fun v7 w7 => (p_astJ w7 l4 (0 : Int32) (Int32.toInt64 v7)).bind fun w11 => some (.inl (some (.int (0 : Int32))), w11)) [("java/lang/IllegalStateException", fun (w9 : PW) => some (.inl (some (.int (1 : Int32))), w9)), ("java/lang/IndexOutOfBoundsException", fun (w9 : PW) => some (.inl (some (.int (2 : Int32))), w9))]
set_option maxRecDepth 20000 in
set_option maxHeartbeats 2000000 in
theorem t_fL_at {Γ : PG} : ∀ (l0 : Nat) (l1 : Int32) (l2 : Int32) (l3 : Int32) (l4 : Nat) (w : PW), EE Γ ML_at 0 (lv_args 0 [.ref l0, .int l1, .int l2, .int l3, .ref l4]) [] w (fL_at l0 l1 l2 l3 l4 w) := by
  intro l0 l1 l2 l3 l4 w
  unfold fL_at
  show EE Γ ML_at 0 [(0, .ref l0), (1, .int l1), (2, .int l2), (3, .int l3), (4, .ref l4)] [] w _
  refine ee_aload 4 dL_at_0 rfl ?_
  refine ee_iconst (v := (0 : Int32)) dL_at_2 (by decide) ?_
  refine ee_aload_n 0 dL_at_3 rfl ?_
  refine ee_iload_n 1 dL_at_4 rfl ?_
  refine ee_iload_n 2 dL_at_5 rfl ?_
  refine ee_iload_n 3 dL_at_6 rfl ?_
  refine ee_bind (fun _ ho7 => ?_)
  refine ee_callVX (as := [.int l1, .int l2, .int l3]) (st := [.int (0 : Int32), .ref l4]) dL_at_7 (t_fW_at l0 l1 l2 l3 w) my_fW_at.1 (Nat.le_of_ble_eq_true rfl) my_fW_at.2 rfl cf_0.1 rfl (p_obj_eq.mp ho7) gw_1116 gw_1117 gw_1118 ⟨Nat.le_of_ble_eq_true rfl, Nat.le_of_ble_eq_true rfl⟩ (Nat.le_of_ble_eq_true rfl) gw_1115 ?_ (fun rv7 w7 _ => ?_)
  · refine List.forall_mem_cons.mpr ⟨?_, List.forall_mem_cons.mpr ⟨?_, fun _ h => absurd h List.not_mem_nil⟩⟩
    · refine ⟨15, ⟨⟨by decide, by decide, by decide⟩, _, gw_743, Or.inl ⟨gw_833, rfl⟩⟩, fun w9 => ?_⟩
      show EE Γ ML_at 15 [(0, .ref l0), (1, .int l1), (2, .int l2), (3, .int l3), (4, .ref l4)] [.float 0] w9 _
      refine ee_astoreE (lv2 := [(5, .float 0), (0, .ref l0), (1, .int l1), (2, .int l2), (3, .int l3), (4, .ref l4)]) dL_at_15 (Nat.le_of_ble_eq_true rfl) rfl ?_
      refine ee_iconst (v := (1 : Int32)) dL_at_17 (by decide) ?_
      exact ee_iret rfl dL_at_18
    · refine ⟨19, ⟨⟨by decide, by decide, by decide⟩, _, gw_743, Or.inr ⟨by decide +kernel, ⟨⟨by decide, by decide, by decide⟩, _, gw_742, Or.inl ⟨gw_757, rfl⟩⟩⟩⟩, fun w9 => ?_⟩
      show EE Γ ML_at 19 [(0, .ref l0), (1, .int l1), (2, .int l2), (3, .int l3), (4, .ref l4)] [.float 0] w9 _
      refine ee_astoreE (lv2 := [(5, .float 0), (0, .ref l0), (1, .int l1), (2, .int l2), (3, .int l3), (4, .ref l4)]) dL_at_19 (Nat.le_of_ble_eq_true rfl) rfl ?_
      refine ee_iconst (v := (2 : Int32)) dL_at_21 (by decide) ?_
      exact ee_iret rfl dL_at_22
  · refine ee_kI (fun v7 => ?_)
    refine ee_i2l dL_at_10 ?_
    refine ee_last dL_at_11 (fun w11 _ => ?_)
    refine ee_goto (tgt := 23) dL_at_12 (by decide) ?_
    refine ee_iconst (v := (0 : Int32)) dL_at_23 (by decide) ?_
    exact ee_iret rfl dL_at_24
def fL_part (l0 : Nat) (l1 : Int32) (l2 : Int32) (l3 : Nat) (w : PW) : PX := (p_obj w l0 0).bind fun _ => p_callX (fW_part l0 l1 l2 w) (p_kI fun v5 w5 => (p_astJ w5 l3 (0 : Int32) (Int32.toInt64 v5)).bind fun w9 => some (.inl (some (.int (0 : Int32))), w9)) [("java/lang/IllegalStateException", fun (w9 : PW) => some (.inl (some (.int (1 : Int32))), w9)), ("java/lang/IndexOutOfBoundsException", fun (w9 : PW) => some (.inl (some (.int (2 : Int32))), w9))]
set_option maxRecDepth 20000 in
set_option maxHeartbeats 2000000 in
theorem t_fL_part {Γ : PG} : ∀ (l0 : Nat) (l1 : Int32) (l2 : Int32) (l3 : Nat) (w : PW), EE Γ ML_part 0 (lv_args 0 [.ref l0, .int l1, .int l2, .ref l3]) [] w (fL_part l0 l1 l2 l3 w) := by
  intro l0 l1 l2 l3 w
  unfold fL_part
  show EE Γ ML_part 0 [(0, .ref l0), (1, .int l1), (2, .int l2), (3, .ref l3)] [] w _
  refine ee_aload_n 3 dL_part_0 rfl ?_
  refine ee_iconst (v := (0 : Int32)) dL_part_1 (by decide) ?_
  refine ee_aload_n 0 dL_part_2 rfl ?_
  refine ee_iload_n 1 dL_part_3 rfl ?_
  refine ee_iload_n 2 dL_part_4 rfl ?_
  refine ee_bind (fun _ ho5 => ?_)
  refine ee_callVX (as := [.int l1, .int l2]) (st := [.int (0 : Int32), .ref l3]) dL_part_5 (t_fW_part l0 l1 l2 w) my_fW_part.1 (Nat.le_of_ble_eq_true rfl) my_fW_part.2 rfl cf_0.1 rfl (p_obj_eq.mp ho5) gw_1128 gw_1129 gw_1130 ⟨Nat.le_of_ble_eq_true rfl, Nat.le_of_ble_eq_true rfl⟩ (Nat.le_of_ble_eq_true rfl) gw_1127 ?_ (fun rv5 w5 _ => ?_)
  · refine List.forall_mem_cons.mpr ⟨?_, List.forall_mem_cons.mpr ⟨?_, fun _ h => absurd h List.not_mem_nil⟩⟩
    · refine ⟨13, ⟨⟨by decide, by decide, by decide⟩, _, gw_743, Or.inl ⟨gw_833, rfl⟩⟩, fun w9 => ?_⟩
      show EE Γ ML_part 13 [(0, .ref l0), (1, .int l1), (2, .int l2), (3, .ref l3)] [.float 0] w9 _
      refine ee_astoreE (lv2 := [(4, .float 0), (0, .ref l0), (1, .int l1), (2, .int l2), (3, .ref l3)]) dL_part_13 (Nat.le_of_ble_eq_true rfl) rfl ?_
      refine ee_iconst (v := (1 : Int32)) dL_part_15 (by decide) ?_
      exact ee_iret rfl dL_part_16
    · refine ⟨17, ⟨⟨by decide, by decide, by decide⟩, _, gw_743, Or.inr ⟨by decide +kernel, ⟨⟨by decide, by decide, by decide⟩, _, gw_742, Or.inl ⟨gw_757, rfl⟩⟩⟩⟩, fun w9 => ?_⟩
      show EE Γ ML_part 17 [(0, .ref l0), (1, .int l1), (2, .int l2), (3, .ref l3)] [.float 0] w9 _
      refine ee_astoreE (lv2 := [(4, .float 0), (0, .ref l0), (1, .int l1), (2, .int l2), (3, .ref l3)]) dL_part_17 (Nat.le_of_ble_eq_true rfl) rfl ?_
      refine ee_iconst (v := (2 : Int32)) dL_part_19 (by decide) ?_
      exact ee_iret rfl dL_part_20
  · refine ee_kI (fun v5 => ?_)
    refine ee_i2l dL_part_8 ?_
    refine ee_last dL_part_9 (fun w9 _ => ?_)
    refine ee_goto (tgt := 21) dL_part_10 (by decide) ?_
    refine ee_iconst (v := (0 : Int32)) dL_part_21 (by decide) ?_
    exact ee_iret rfl dL_part_22
def fL_partByte (l0 : Nat) (l1 : Int32) (l2 : Int32) (l3 : Nat) (w : PW) : PX := (p_obj w l0 0).bind fun _ => p_callX (fW_partByte l0 l1 l2 w) (p_kI fun v5 w5 => (p_astJ w5 l3 (0 : Int32) (Int32.toInt64 v5)).bind fun w9 => some (.inl (some (.int (0 : Int32))), w9)) [("java/lang/IllegalStateException", fun (w9 : PW) => some (.inl (some (.int (1 : Int32))), w9)), ("java/lang/IndexOutOfBoundsException", fun (w9 : PW) => some (.inl (some (.int (2 : Int32))), w9))]
set_option maxRecDepth 20000 in
set_option maxHeartbeats 2000000 in
theorem t_fL_partByte {Γ : PG} : ∀ (l0 : Nat) (l1 : Int32) (l2 : Int32) (l3 : Nat) (w : PW), EE Γ ML_partByte 0 (lv_args 0 [.ref l0, .int l1, .int l2, .ref l3]) [] w (fL_partByte l0 l1 l2 l3 w) := by
  intro l0 l1 l2 l3 w
  unfold fL_partByte
  show EE Γ ML_partByte 0 [(0, .ref l0), (1, .int l1), (2, .int l2), (3, .ref l3)] [] w _
  refine ee_aload_n 3 dL_partByte_0 rfl ?_
  refine ee_iconst (v := (0 : Int32)) dL_partByte_1 (by decide) ?_
  refine ee_aload_n 0 dL_partByte_2 rfl ?_
  refine ee_iload_n 1 dL_partByte_3 rfl ?_
  refine ee_iload_n 2 dL_partByte_4 rfl ?_
  refine ee_bind (fun _ ho5 => ?_)
  refine ee_callVX (as := [.int l1, .int l2]) (st := [.int (0 : Int32), .ref l3]) dL_partByte_5 (t_fW_partByte l0 l1 l2 w) my_fW_partByte.1 (Nat.le_of_ble_eq_true rfl) my_fW_partByte.2 rfl cf_0.1 rfl (p_obj_eq.mp ho5) gw_1136 gw_1137 gw_1138 ⟨Nat.le_of_ble_eq_true rfl, Nat.le_of_ble_eq_true rfl⟩ (Nat.le_of_ble_eq_true rfl) gw_1135 ?_ (fun rv5 w5 _ => ?_)
  · refine List.forall_mem_cons.mpr ⟨?_, List.forall_mem_cons.mpr ⟨?_, fun _ h => absurd h List.not_mem_nil⟩⟩
    · refine ⟨13, ⟨⟨by decide, by decide, by decide⟩, _, gw_743, Or.inl ⟨gw_833, rfl⟩⟩, fun w9 => ?_⟩
      show EE Γ ML_partByte 13 [(0, .ref l0), (1, .int l1), (2, .int l2), (3, .ref l3)] [.float 0] w9 _
      refine ee_astoreE (lv2 := [(4, .float 0), (0, .ref l0), (1, .int l1), (2, .int l2), (3, .ref l3)]) dL_partByte_13 (Nat.le_of_ble_eq_true rfl) rfl ?_
      refine ee_iconst (v := (1 : Int32)) dL_partByte_15 (by decide) ?_
      exact ee_iret rfl dL_partByte_16
    · refine ⟨17, ⟨⟨by decide, by decide, by decide⟩, _, gw_743, Or.inr ⟨by decide +kernel, ⟨⟨by decide, by decide, by decide⟩, _, gw_742, Or.inl ⟨gw_757, rfl⟩⟩⟩⟩, fun w9 => ?_⟩
      show EE Γ ML_partByte 17 [(0, .ref l0), (1, .int l1), (2, .int l2), (3, .ref l3)] [.float 0] w9 _
      refine ee_astoreE (lv2 := [(4, .float 0), (0, .ref l0), (1, .int l1), (2, .int l2), (3, .ref l3)]) dL_partByte_17 (Nat.le_of_ble_eq_true rfl) rfl ?_
      refine ee_iconst (v := (2 : Int32)) dL_partByte_19 (by decide) ?_
      exact ee_iret rfl dL_partByte_20
  · refine ee_kI (fun v5 => ?_)
    refine ee_i2l dL_partByte_8 ?_
    refine ee_last dL_partByte_9 (fun w9 _ => ?_)
    refine ee_goto (tgt := 21) dL_partByte_10 (by decide) ?_
    refine ee_iconst (v := (0 : Int32)) dL_partByte_21 (by decide) ?_
    exact ee_iret rfl dL_partByte_22
def fL_unknown (l0 : Nat) (l1 : Int32) (l2 : Int32) (l3 : Nat) (w : PW) : PX := (p_obj w l0 0).bind fun _ => p_callX (fW_unknown l0 l1 l2 w) (p_kI fun v5 w5 => (p_astJ w5 l3 (0 : Int32) (Int32.toInt64 v5)).bind fun w9 => some (.inl (some (.int (0 : Int32))), w9)) [("java/lang/IndexOutOfBoundsException", fun (w9 : PW) => some (.inl (some (.int (1 : Int32))), w9))]
set_option maxRecDepth 20000 in
set_option maxHeartbeats 2000000 in
theorem t_fL_unknown {Γ : PG} : ∀ (l0 : Nat) (l1 : Int32) (l2 : Int32) (l3 : Nat) (w : PW), EE Γ ML_unknown 0 (lv_args 0 [.ref l0, .int l1, .int l2, .ref l3]) [] w (fL_unknown l0 l1 l2 l3 w) := by
  intro l0 l1 l2 l3 w
  unfold fL_unknown
  show EE Γ ML_unknown 0 [(0, .ref l0), (1, .int l1), (2, .int l2), (3, .ref l3)] [] w _
  refine ee_aload_n 3 dL_unknown_0 rfl ?_
  refine ee_iconst (v := (0 : Int32)) dL_unknown_1 (by decide) ?_
  refine ee_aload_n 0 dL_unknown_2 rfl ?_
  refine ee_iload_n 1 dL_unknown_3 rfl ?_
  refine ee_iload_n 2 dL_unknown_4 rfl ?_
  refine ee_bind (fun _ ho5 => ?_)
  refine ee_callVX (as := [.int l1, .int l2]) (st := [.int (0 : Int32), .ref l3]) dL_unknown_5 (t_fW_unknown l0 l1 l2 w) my_fW_unknown.1 (Nat.le_of_ble_eq_true rfl) my_fW_unknown.2 rfl cf_0.1 rfl (p_obj_eq.mp ho5) gw_1143 gw_1144 gw_1145 ⟨Nat.le_of_ble_eq_true rfl, Nat.le_of_ble_eq_true rfl⟩ (Nat.le_of_ble_eq_true rfl) gw_1142 ?_ (fun rv5 w5 _ => ?_)
  · refine List.forall_mem_cons.mpr ⟨?_, fun _ h => absurd h List.not_mem_nil⟩
    · refine ⟨13, ⟨⟨by decide, by decide, by decide⟩, _, gw_742, Or.inl ⟨gw_757, rfl⟩⟩, fun w9 => ?_⟩
      show EE Γ ML_unknown 13 [(0, .ref l0), (1, .int l1), (2, .int l2), (3, .ref l3)] [.float 0] w9 _
      refine ee_astoreE (lv2 := [(4, .float 0), (0, .ref l0), (1, .int l1), (2, .int l2), (3, .ref l3)]) dL_unknown_13 (Nat.le_of_ble_eq_true rfl) rfl ?_
      refine ee_iconst (v := (1 : Int32)) dL_unknown_15 (by decide) ?_
      exact ee_iret rfl dL_unknown_16
  · refine ee_kI (fun v5 => ?_)
    refine ee_i2l dL_unknown_8 ?_
    refine ee_last dL_unknown_9 (fun w9 _ => ?_)
    refine ee_goto (tgt := 17) dL_unknown_10 (by decide) ?_
    refine ee_iconst (v := (0 : Int32)) dL_unknown_17 (by decide) ?_
    exact ee_iret rfl dL_unknown_18
def fL_law_148 (S : Nat × (Nat → Int32)) (k_43 : Nat → Nat → Nat → Int32 → PW → PX) (l1 : Nat) (l2 : Nat) (l3 : Nat) (l4 : Int32) (w : PW) : PX := (p_sld S (l4 + (1 : Int32))).bind fun v154 => (p_sld S (l4 + (2 : Int32))).bind fun v160 => (p_sld S (l4 + (3 : Int32))).bind fun v166 => (p_sld S (l4 + (4 : Int32))).bind fun v172 => p_call (fL_set l1 v154 v160 v166 v172 l3 w) <| p_kI fun v174 w174 => (p_sld S (l4 + (1 : Int32))).bind fun v185 => (p_sld S (l4 + (2 : Int32))).bind fun v191 => (p_sld S (l4 + (3 : Int32))).bind fun v197 => (p_sld S (l4 + (4 : Int32))).bind fun v203 => (p_obj w174 l2 10).bind fun _ => p_call (fD_set l2 v185 v191 v197 v203 w174) <| p_kI fun v204 w204 => (p_obj w204 l2 10).bind fun _ => p_call (fD_thrown l2 w204) <| p_kI fun v210 w210 => if v210 = v174 then (if ¬ v174 = 0 then (p_let (l4 + (5 : Int32)) fun (l4_1222 : Int32) => k_43 l1 l2 l3 l4_1222 w210) else ((p_aldJ w210 l3 (0 : Int32)).bind fun v227 => if (lg_cmp v227 (Int32.toInt64 v204)) = 0 then (p_let (l4 + (5 : Int32)) fun (l4_1222 : Int32) => k_43 l1 l2 l3 l4_1222 w210) else (p_retZ (0 : Int32) w210))) else (p_retZ (0 : Int32) w210)
set_option maxRecDepth 20000 in
set_option maxHeartbeats 2000000 in
theorem t_fL_law_148 {Γ : PG} {k_43 : Nat → Nat → Nat → Int32 → PW → PX} (hk_43 : ∀ (l1 : Nat) (l2 : Nat) (l3 : Nat) (l4 : Int32) (w : PW), EE Γ ML_law 43 [(0, .retAddr 5), (1, .ref l1), (2, .ref l2), (3, .ref l3), (4, .int l4)] [] w (k_43 l1 l2 l3 l4 w)) : ∀ (l1 : Nat) (l2 : Nat) (l3 : Nat) (l4 : Int32) (w : PW), EE Γ ML_law 148 [(0, .retAddr 5), (1, .ref l1), (2, .ref l2), (3, .ref l3), (4, .int l4)] [] w (fL_law_148 (pg_S Γ) k_43 l1 l2 l3 l4 w) := by
  intro l1 l2 l3 l4 w
  unfold fL_law_148
  refine ee_aload_n 1 dL_law_148 rfl ?_
  refine ee_aload_nT 0 dL_law_149 rfl ?_
  refine ee_iload 4 dL_law_150 rfl ?_
  refine ee_iconst (v := (1 : Int32)) dL_law_152 (by decide) ?_
  refine ee_iadd dL_law_153 ?_
  refine ee_sld dL_law_154 (fun v154 _ => ?_)
  refine ee_aload_nT 0 dL_law_155 rfl ?_
  refine ee_iload 4 dL_law_156 rfl ?_
  refine ee_iconst (v := (2 : Int32)) dL_law_158 (by decide) ?_
  refine ee_iadd dL_law_159 ?_
  refine ee_sld dL_law_160 (fun v160 _ => ?_)
  refine ee_aload_nT 0 dL_law_161 rfl ?_
  refine ee_iload 4 dL_law_162 rfl ?_
  refine ee_iconst (v := (3 : Int32)) dL_law_164 (by decide) ?_
  refine ee_iadd dL_law_165 ?_
  refine ee_sld dL_law_166 (fun v166 _ => ?_)
  refine ee_aload_nT 0 dL_law_167 rfl ?_
  refine ee_iload 4 dL_law_168 rfl ?_
  refine ee_iconst (v := (4 : Int32)) dL_law_170 (by decide) ?_
  refine ee_iadd dL_law_171 ?_
  refine ee_sld dL_law_172 (fun v172 _ => ?_)
  refine ee_aload_n 3 dL_law_173 rfl ?_
  refine ee_callSW (as := [.ref l1, .int v154, .int v160, .int v166, .int v172, .ref l3]) (st := []) dL_law_174 (t_fL_set l1 v154 v160 v166 v172 l3 w) ⟨by decide, rfl, by decide, by decide⟩ gw_741 gw_52 (Nat.le_of_ble_eq_true rfl) my_fL_set rfl gw_739 gw_740 ⟨Nat.le_of_ble_eq_true rfl, Nat.le_of_ble_eq_true rfl⟩ (Nat.le_of_ble_eq_true rfl) (fun rv174 w174 _ => ?_)
  refine ee_kI (fun v174 => ?_)
  refine ee_istore (lv2 := [(5, .int v174), (0, .retAddr 5), (1, .ref l1), (2, .ref l2), (3, .ref l3), (4, .int l4)]) dL_law_177 (Nat.le_of_ble_eq_true rfl) rfl ?_
  refine ee_aload_n 3 dL_law_179 rfl ?_
  refine ee_aload_nT 1 dL_law_180 rfl ?_
  refine ee_iload 5 dL_law_181 rfl ?_
  refine ee_iconst (v := (1 : Int32)) dL_law_183 (by decide) ?_
  refine ee_iadd dL_law_184 ?_
  refine ee_sld dL_law_185 (fun v185 _ => ?_)
  refine ee_aload_nT 1 dL_law_186 rfl ?_
  refine ee_iload 5 dL_law_187 rfl ?_
  refine ee_iconst (v := (2 : Int32)) dL_law_189 (by decide) ?_
  refine ee_iadd dL_law_190 ?_
  refine ee_sld dL_law_191 (fun v191 _ => ?_)
  refine ee_aload_nT 1 dL_law_192 rfl ?_
  refine ee_iload 5 dL_law_193 rfl ?_
  refine ee_iconst (v := (3 : Int32)) dL_law_195 (by decide) ?_
  refine ee_iadd dL_law_196 ?_
  refine ee_sld dL_law_197 (fun v197 _ => ?_)
  refine ee_aload_nT 1 dL_law_198 rfl ?_
  refine ee_iload 5 dL_law_199 rfl ?_
  refine ee_iconst (v := (4 : Int32)) dL_law_201 (by decide) ?_
  refine ee_iadd dL_law_202 ?_
  refine ee_sld dL_law_203 (fun v203 _ => ?_)
  refine ee_bind (fun _ ho204 => ?_)
  refine ee_callV (as := [.int v185, .int v191, .int v197, .int v203]) (st := []) dL_law_204 (t_fD_set l2 v185 v191 v197 v203 w174) my_fD_set.1 (Nat.le_of_ble_eq_true rfl) my_fD_set.2 rfl cf_10.1 rfl (p_obj_eq.mp ho204) gw_1311 gw_1312 gw_1313 ⟨Nat.le_of_ble_eq_true rfl, Nat.le_of_ble_eq_true rfl⟩ (Nat.le_of_ble_eq_true rfl) (fun rv204 w204 _ => ?_)
  refine ee_kI (fun v204 => ?_)
  refine ee_istore (lv2 := [(6, .int v204), (5, .int v174), (0, .retAddr 5), (1, .ref l1), (2, .ref l2), (3, .ref l3), (4, .int l4)]) dL_law_207 (Nat.le_of_ble_eq_true rfl) rfl ?_
  refine ee_aload_n 4 dL_law_209 rfl ?_
  refine ee_bind (fun _ ho210 => ?_)
  refine ee_callV (as := []) (st := []) dL_law_210 (t_fD_thrown l2 w204) my_fD_thrown.1 (Nat.le_of_ble_eq_true rfl) my_fD_thrown.2 rfl cf_10.1 rfl (p_obj_eq.mp ho210) gw_1307 gw_1308 gw_1309 ⟨Nat.le_of_ble_eq_true rfl, Nat.le_of_ble_eq_true rfl⟩ (Nat.le_of_ble_eq_true rfl) (fun rv210 w210 _ => ?_)
  refine ee_kI (fun v210 => ?_)
  refine ee_iload 1 dL_law_213 rfl ?_
  refine ee_icmp_eq (tgt := 220) dL_law_215 (by decide) (fun h215 => ?_) (fun h215 => ?_)
  · refine ee_iload 1 dL_law_220 rfl ?_
    refine ee_if_ne (tgt := 237) dL_law_222 (by decide) (fun h222 => ?_) (fun h222 => ?_)
    · refine ee_goto (tgt := 1222) dL_law_237 (by decide) ?_
      refine ee_iinc 6 dL_law_1222 rfl (e := (5 : Int32)) (by decide) (Nat.le_of_ble_eq_true rfl) (fun l4_1222 _ => ?_)
      refine ee_lv (lv2 := [(4, .int l4_1222), (6, .int v204), (5, .int v174), (0, .retAddr 5), (1, .ref l1), (2, .ref l2), (3, .ref l3)]) rfl ?_
      refine ee_goto (tgt := 43) dL_law_1225 (by decide) ?_
      refine ee_pick [3, 4, 5, 6, 0] rfl ?_
      exact hk_43 _ _ _ _ w210
    · refine ee_aload_n 5 dL_law_225 rfl ?_
      refine ee_iconst (v := (0 : Int32)) dL_law_226 (by decide) ?_
      refine ee_lald dL_law_227 (fun v227 _ => ?_)
      refine ee_iload 0 dL_law_228 rfl ?_
      refine ee_i2l dL_law_230 ?_
      refine ee_lcmp dL_law_231 ?_
      refine ee_if_eq (tgt := 237) dL_law_232 (by decide) (fun h232 => ?_) (fun h232 => ?_)
      · refine ee_goto (tgt := 1222) dL_law_237 (by decide) ?_
        refine ee_iinc 6 dL_law_1222 rfl (e := (5 : Int32)) (by decide) (Nat.le_of_ble_eq_true rfl) (fun l4_1222 _ => ?_)
        refine ee_lv (lv2 := [(4, .int l4_1222), (6, .int v204), (5, .int v174), (0, .retAddr 5), (1, .ref l1), (2, .ref l2), (3, .ref l3)]) rfl ?_
        refine ee_goto (tgt := 43) dL_law_1225 (by decide) ?_
        refine ee_pick [3, 4, 5, 6, 0] rfl ?_
        exact hk_43 _ _ _ _ w210
      · refine ee_iconst (v := (0 : Int32)) dL_law_235 (by decide) ?_
        exact ee_zret rfl dL_law_236
  · refine ee_iconst (v := (0 : Int32)) dL_law_218 (by decide) ?_
    exact ee_zret rfl dL_law_219
def fL_law_240 (S : Nat × (Nat → Int32)) (k_43 : Nat → Nat → Nat → Int32 → PW → PX) (l1 : Nat) (l2 : Nat) (l3 : Nat) (l4 : Int32) (w : PW) : PX := (p_sld S (l4 + (1 : Int32))).bind fun v246 => p_call (fL_tilePart l1 v246 l3 w) <| p_kI fun v248 w248 => (p_sld S (l4 + (1 : Int32))).bind fun v259 => (p_obj w248 l2 10).bind fun _ => p_call (fD_tilePart l2 v259 w248) <| p_kI fun v260 w260 => (p_obj w260 l2 10).bind fun _ => p_call (fD_thrown l2 w260) <| p_kI fun v266 w266 => if v266 = v248 then (if ¬ v248 = 0 then (p_let (l4 + (5 : Int32)) fun (l4_1222 : Int32) => k_43 l1 l2 l3 l4_1222 w266) else ((p_aldJ w266 l3 (0 : Int32)).bind fun v283 => if (lg_cmp v283 (Int32.toInt64 v260)) = 0 then (p_let (l4 + (5 : Int32)) fun (l4_1222 : Int32) => k_43 l1 l2 l3 l4_1222 w266) else (p_retZ (0 : Int32) w266))) else (p_retZ (0 : Int32) w266)
set_option maxRecDepth 20000 in
set_option maxHeartbeats 2000000 in
theorem t_fL_law_240 {Γ : PG} {k_43 : Nat → Nat → Nat → Int32 → PW → PX} (hk_43 : ∀ (l1 : Nat) (l2 : Nat) (l3 : Nat) (l4 : Int32) (w : PW), EE Γ ML_law 43 [(0, .retAddr 5), (1, .ref l1), (2, .ref l2), (3, .ref l3), (4, .int l4)] [] w (k_43 l1 l2 l3 l4 w)) : ∀ (l1 : Nat) (l2 : Nat) (l3 : Nat) (l4 : Int32) (w : PW), EE Γ ML_law 240 [(0, .retAddr 5), (1, .ref l1), (2, .ref l2), (3, .ref l3), (4, .int l4)] [] w (fL_law_240 (pg_S Γ) k_43 l1 l2 l3 l4 w) := by
  intro l1 l2 l3 l4 w
  unfold fL_law_240
  refine ee_aload_n 1 dL_law_240 rfl ?_
  refine ee_aload_nT 0 dL_law_241 rfl ?_
  refine ee_iload 4 dL_law_242 rfl ?_
  refine ee_iconst (v := (1 : Int32)) dL_law_244 (by decide) ?_
  refine ee_iadd dL_law_245 ?_
  refine ee_sld dL_law_246 (fun v246 _ => ?_)
  refine ee_aload_n 3 dL_law_247 rfl ?_
  refine ee_callSW (as := [.ref l1, .int v246, .ref l3]) (st := []) dL_law_248 (t_fL_tilePart l1 v246 l3 w) ⟨by decide, rfl, by decide, by decide⟩ gw_880 gw_52 (Nat.le_of_ble_eq_true rfl) my_fL_tilePart rfl gw_878 gw_879 ⟨Nat.le_of_ble_eq_true rfl, Nat.le_of_ble_eq_true rfl⟩ (Nat.le_of_ble_eq_true rfl) (fun rv248 w248 _ => ?_)
  refine ee_kI (fun v248 => ?_)
  refine ee_istore (lv2 := [(5, .int v248), (0, .retAddr 5), (1, .ref l1), (2, .ref l2), (3, .ref l3), (4, .int l4)]) dL_law_251 (Nat.le_of_ble_eq_true rfl) rfl ?_
  refine ee_aload_n 3 dL_law_253 rfl ?_
  refine ee_aload_nT 1 dL_law_254 rfl ?_
  refine ee_iload 5 dL_law_255 rfl ?_
  refine ee_iconst (v := (1 : Int32)) dL_law_257 (by decide) ?_
  refine ee_iadd dL_law_258 ?_
  refine ee_sld dL_law_259 (fun v259 _ => ?_)
  refine ee_bind (fun _ ho260 => ?_)
  refine ee_callV (as := [.int v259]) (st := []) dL_law_260 (t_fD_tilePart l2 v259 w248) my_fD_tilePart.1 (Nat.le_of_ble_eq_true rfl) my_fD_tilePart.2 rfl cf_10.1 rfl (p_obj_eq.mp ho260) gw_1374 gw_1375 gw_1376 ⟨Nat.le_of_ble_eq_true rfl, Nat.le_of_ble_eq_true rfl⟩ (Nat.le_of_ble_eq_true rfl) (fun rv260 w260 _ => ?_)
  refine ee_kI (fun v260 => ?_)
  refine ee_istore (lv2 := [(6, .int v260), (5, .int v248), (0, .retAddr 5), (1, .ref l1), (2, .ref l2), (3, .ref l3), (4, .int l4)]) dL_law_263 (Nat.le_of_ble_eq_true rfl) rfl ?_
  refine ee_aload_n 4 dL_law_265 rfl ?_
  refine ee_bind (fun _ ho266 => ?_)
  refine ee_callV (as := []) (st := []) dL_law_266 (t_fD_thrown l2 w260) my_fD_thrown.1 (Nat.le_of_ble_eq_true rfl) my_fD_thrown.2 rfl cf_10.1 rfl (p_obj_eq.mp ho266) gw_1307 gw_1308 gw_1309 ⟨Nat.le_of_ble_eq_true rfl, Nat.le_of_ble_eq_true rfl⟩ (Nat.le_of_ble_eq_true rfl) (fun rv266 w266 _ => ?_)
  refine ee_kI (fun v266 => ?_)
  refine ee_iload 1 dL_law_269 rfl ?_
  refine ee_icmp_eq (tgt := 276) dL_law_271 (by decide) (fun h271 => ?_) (fun h271 => ?_)
  · refine ee_iload 1 dL_law_276 rfl ?_
    refine ee_if_ne (tgt := 293) dL_law_278 (by decide) (fun h278 => ?_) (fun h278 => ?_)
    · refine ee_goto (tgt := 1222) dL_law_293 (by decide) ?_
      refine ee_iinc 6 dL_law_1222 rfl (e := (5 : Int32)) (by decide) (Nat.le_of_ble_eq_true rfl) (fun l4_1222 _ => ?_)
      refine ee_lv (lv2 := [(4, .int l4_1222), (6, .int v260), (5, .int v248), (0, .retAddr 5), (1, .ref l1), (2, .ref l2), (3, .ref l3)]) rfl ?_
      refine ee_goto (tgt := 43) dL_law_1225 (by decide) ?_
      refine ee_pick [3, 4, 5, 6, 0] rfl ?_
      exact hk_43 _ _ _ _ w266
    · refine ee_aload_n 5 dL_law_281 rfl ?_
      refine ee_iconst (v := (0 : Int32)) dL_law_282 (by decide) ?_
      refine ee_lald dL_law_283 (fun v283 _ => ?_)
      refine ee_iload 0 dL_law_284 rfl ?_
      refine ee_i2l dL_law_286 ?_
      refine ee_lcmp dL_law_287 ?_
      refine ee_if_eq (tgt := 293) dL_law_288 (by decide) (fun h288 => ?_) (fun h288 => ?_)
      · refine ee_goto (tgt := 1222) dL_law_293 (by decide) ?_
        refine ee_iinc 6 dL_law_1222 rfl (e := (5 : Int32)) (by decide) (Nat.le_of_ble_eq_true rfl) (fun l4_1222 _ => ?_)
        refine ee_lv (lv2 := [(4, .int l4_1222), (6, .int v260), (5, .int v248), (0, .retAddr 5), (1, .ref l1), (2, .ref l2), (3, .ref l3)]) rfl ?_
        refine ee_goto (tgt := 43) dL_law_1225 (by decide) ?_
        refine ee_pick [3, 4, 5, 6, 0] rfl ?_
        exact hk_43 _ _ _ _ w266
      · refine ee_iconst (v := (0 : Int32)) dL_law_291 (by decide) ?_
        exact ee_zret rfl dL_law_292
  · refine ee_iconst (v := (0 : Int32)) dL_law_274 (by decide) ?_
    exact ee_zret rfl dL_law_275
def fL_law_296 (S : Nat × (Nat → Int32)) (k_43 : Nat → Nat → Nat → Int32 → PW → PX) (l1 : Nat) (l2 : Nat) (l3 : Nat) (l4 : Int32) (w : PW) : PX := (p_sld S (l4 + (1 : Int32))).bind fun v302 => p_call (fL_packet l1 v302 l3 w) <| p_kI fun v304 w304 => (p_sld S (l4 + (1 : Int32))).bind fun v315 => (p_obj w304 l2 10).bind fun _ => p_call (fD_packet l2 v315 w304) <| p_kI fun v316 w316 => (p_obj w316 l2 10).bind fun _ => p_call (fD_thrown l2 w316) <| p_kI fun v322 w322 => if v322 = v304 then (if ¬ v304 = 0 then (p_let (l4 + (5 : Int32)) fun (l4_1222 : Int32) => k_43 l1 l2 l3 l4_1222 w322) else ((p_aldJ w322 l3 (0 : Int32)).bind fun v339 => if (lg_cmp v339 (Int32.toInt64 v316)) = 0 then (p_let (l4 + (5 : Int32)) fun (l4_1222 : Int32) => k_43 l1 l2 l3 l4_1222 w322) else (p_retZ (0 : Int32) w322))) else (p_retZ (0 : Int32) w322)
set_option maxRecDepth 20000 in
set_option maxHeartbeats 2000000 in
theorem t_fL_law_296 {Γ : PG} {k_43 : Nat → Nat → Nat → Int32 → PW → PX} (hk_43 : ∀ (l1 : Nat) (l2 : Nat) (l3 : Nat) (l4 : Int32) (w : PW), EE Γ ML_law 43 [(0, .retAddr 5), (1, .ref l1), (2, .ref l2), (3, .ref l3), (4, .int l4)] [] w (k_43 l1 l2 l3 l4 w)) : ∀ (l1 : Nat) (l2 : Nat) (l3 : Nat) (l4 : Int32) (w : PW), EE Γ ML_law 296 [(0, .retAddr 5), (1, .ref l1), (2, .ref l2), (3, .ref l3), (4, .int l4)] [] w (fL_law_296 (pg_S Γ) k_43 l1 l2 l3 l4 w) := by
  intro l1 l2 l3 l4 w
  unfold fL_law_296
  refine ee_aload_n 1 dL_law_296 rfl ?_
  refine ee_aload_nT 0 dL_law_297 rfl ?_
  refine ee_iload 4 dL_law_298 rfl ?_
  refine ee_iconst (v := (1 : Int32)) dL_law_300 (by decide) ?_
  refine ee_iadd dL_law_301 ?_
  refine ee_sld dL_law_302 (fun v302 _ => ?_)
  refine ee_aload_n 3 dL_law_303 rfl ?_
  refine ee_callSW (as := [.ref l1, .int v302, .ref l3]) (st := []) dL_law_304 (t_fL_packet l1 v302 l3 w) ⟨by decide, rfl, by decide, by decide⟩ gw_997 gw_52 (Nat.le_of_ble_eq_true rfl) my_fL_packet rfl gw_995 gw_996 ⟨Nat.le_of_ble_eq_true rfl, Nat.le_of_ble_eq_true rfl⟩ (Nat.le_of_ble_eq_true rfl) (fun rv304 w304 _ => ?_)
  refine ee_kI (fun v304 => ?_)
  refine ee_istore (lv2 := [(5, .int v304), (0, .retAddr 5), (1, .ref l1), (2, .ref l2), (3, .ref l3), (4, .int l4)]) dL_law_307 (Nat.le_of_ble_eq_true rfl) rfl ?_
  refine ee_aload_n 3 dL_law_309 rfl ?_
  refine ee_aload_nT 1 dL_law_310 rfl ?_
  refine ee_iload 5 dL_law_311 rfl ?_
  refine ee_iconst (v := (1 : Int32)) dL_law_313 (by decide) ?_
  refine ee_iadd dL_law_314 ?_
  refine ee_sld dL_law_315 (fun v315 _ => ?_)
  refine ee_bind (fun _ ho316 => ?_)
  refine ee_callV (as := [.int v315]) (st := []) dL_law_316 (t_fD_packet l2 v315 w304) my_fD_packet.1 (Nat.le_of_ble_eq_true rfl) my_fD_packet.2 rfl cf_10.1 rfl (p_obj_eq.mp ho316) gw_1378 gw_1379 gw_1380 ⟨Nat.le_of_ble_eq_true rfl, Nat.le_of_ble_eq_true rfl⟩ (Nat.le_of_ble_eq_true rfl) (fun rv316 w316 _ => ?_)
  refine ee_kI (fun v316 => ?_)
  refine ee_istore (lv2 := [(6, .int v316), (5, .int v304), (0, .retAddr 5), (1, .ref l1), (2, .ref l2), (3, .ref l3), (4, .int l4)]) dL_law_319 (Nat.le_of_ble_eq_true rfl) rfl ?_
  refine ee_aload_n 4 dL_law_321 rfl ?_
  refine ee_bind (fun _ ho322 => ?_)
  refine ee_callV (as := []) (st := []) dL_law_322 (t_fD_thrown l2 w316) my_fD_thrown.1 (Nat.le_of_ble_eq_true rfl) my_fD_thrown.2 rfl cf_10.1 rfl (p_obj_eq.mp ho322) gw_1307 gw_1308 gw_1309 ⟨Nat.le_of_ble_eq_true rfl, Nat.le_of_ble_eq_true rfl⟩ (Nat.le_of_ble_eq_true rfl) (fun rv322 w322 _ => ?_)
  refine ee_kI (fun v322 => ?_)
  refine ee_iload 1 dL_law_325 rfl ?_
  refine ee_icmp_eq (tgt := 332) dL_law_327 (by decide) (fun h327 => ?_) (fun h327 => ?_)
  · refine ee_iload 1 dL_law_332 rfl ?_
    refine ee_if_ne (tgt := 349) dL_law_334 (by decide) (fun h334 => ?_) (fun h334 => ?_)
    · refine ee_goto (tgt := 1222) dL_law_349 (by decide) ?_
      refine ee_iinc 6 dL_law_1222 rfl (e := (5 : Int32)) (by decide) (Nat.le_of_ble_eq_true rfl) (fun l4_1222 _ => ?_)
      refine ee_lv (lv2 := [(4, .int l4_1222), (6, .int v316), (5, .int v304), (0, .retAddr 5), (1, .ref l1), (2, .ref l2), (3, .ref l3)]) rfl ?_
      refine ee_goto (tgt := 43) dL_law_1225 (by decide) ?_
      refine ee_pick [3, 4, 5, 6, 0] rfl ?_
      exact hk_43 _ _ _ _ w322
    · refine ee_aload_n 5 dL_law_337 rfl ?_
      refine ee_iconst (v := (0 : Int32)) dL_law_338 (by decide) ?_
      refine ee_lald dL_law_339 (fun v339 _ => ?_)
      refine ee_iload 0 dL_law_340 rfl ?_
      refine ee_i2l dL_law_342 ?_
      refine ee_lcmp dL_law_343 ?_
      refine ee_if_eq (tgt := 349) dL_law_344 (by decide) (fun h344 => ?_) (fun h344 => ?_)
      · refine ee_goto (tgt := 1222) dL_law_349 (by decide) ?_
        refine ee_iinc 6 dL_law_1222 rfl (e := (5 : Int32)) (by decide) (Nat.le_of_ble_eq_true rfl) (fun l4_1222 _ => ?_)
        refine ee_lv (lv2 := [(4, .int l4_1222), (6, .int v316), (5, .int v304), (0, .retAddr 5), (1, .ref l1), (2, .ref l2), (3, .ref l3)]) rfl ?_
        refine ee_goto (tgt := 43) dL_law_1225 (by decide) ?_
        refine ee_pick [3, 4, 5, 6, 0] rfl ?_
        exact hk_43 _ _ _ _ w322
      · refine ee_iconst (v := (0 : Int32)) dL_law_347 (by decide) ?_
        exact ee_zret rfl dL_law_348
  · refine ee_iconst (v := (0 : Int32)) dL_law_330 (by decide) ?_
    exact ee_zret rfl dL_law_331
def fL_law_352 (S : Nat × (Nat → Int32)) (k_43 : Nat → Nat → Nat → Int32 → PW → PX) (l1 : Nat) (l2 : Nat) (l3 : Nat) (l4 : Int32) (w : PW) : PX := (p_sld S (l4 + (1 : Int32))).bind fun v358 => (p_sld S (l4 + (2 : Int32))).bind fun v364 => p_call (fL_byteOf l1 v358 v364 l3 w) <| p_kI fun v366 w366 => (p_sld S (l4 + (1 : Int32))).bind fun v377 => (p_sld S (l4 + (2 : Int32))).bind fun v383 => (p_obj w366 l2 10).bind fun _ => p_call (fD_byteOf l2 v377 v383 w366) <| p_kI fun v384 w384 => (p_obj w384 l2 10).bind fun _ => p_call (fD_thrown l2 w384) <| p_kI fun v390 w390 => if v390 = v366 then (if ¬ v366 = 0 then (p_let (l4 + (5 : Int32)) fun (l4_1222 : Int32) => k_43 l1 l2 l3 l4_1222 w390) else ((p_aldJ w390 l3 (0 : Int32)).bind fun v407 => if (lg_cmp v407 (Int32.toInt64 v384)) = 0 then (p_let (l4 + (5 : Int32)) fun (l4_1222 : Int32) => k_43 l1 l2 l3 l4_1222 w390) else (p_retZ (0 : Int32) w390))) else (p_retZ (0 : Int32) w390)
set_option maxRecDepth 20000 in
set_option maxHeartbeats 2000000 in
theorem t_fL_law_352 {Γ : PG} {k_43 : Nat → Nat → Nat → Int32 → PW → PX} (hk_43 : ∀ (l1 : Nat) (l2 : Nat) (l3 : Nat) (l4 : Int32) (w : PW), EE Γ ML_law 43 [(0, .retAddr 5), (1, .ref l1), (2, .ref l2), (3, .ref l3), (4, .int l4)] [] w (k_43 l1 l2 l3 l4 w)) : ∀ (l1 : Nat) (l2 : Nat) (l3 : Nat) (l4 : Int32) (w : PW), EE Γ ML_law 352 [(0, .retAddr 5), (1, .ref l1), (2, .ref l2), (3, .ref l3), (4, .int l4)] [] w (fL_law_352 (pg_S Γ) k_43 l1 l2 l3 l4 w) := by
  intro l1 l2 l3 l4 w
  unfold fL_law_352
  refine ee_aload_n 1 dL_law_352 rfl ?_
  refine ee_aload_nT 0 dL_law_353 rfl ?_
  refine ee_iload 4 dL_law_354 rfl ?_
  refine ee_iconst (v := (1 : Int32)) dL_law_356 (by decide) ?_
  refine ee_iadd dL_law_357 ?_
  refine ee_sld dL_law_358 (fun v358 _ => ?_)
  refine ee_aload_nT 0 dL_law_359 rfl ?_
  refine ee_iload 4 dL_law_360 rfl ?_
  refine ee_iconst (v := (2 : Int32)) dL_law_362 (by decide) ?_
  refine ee_iadd dL_law_363 ?_
  refine ee_sld dL_law_364 (fun v364 _ => ?_)
  refine ee_aload_n 3 dL_law_365 rfl ?_
  refine ee_callSW (as := [.ref l1, .int v358, .int v364, .ref l3]) (st := []) dL_law_366 (t_fL_byteOf l1 v358 v364 l3 w) ⟨by decide, rfl, by decide, by decide⟩ gw_1006 gw_52 (Nat.le_of_ble_eq_true rfl) my_fL_byteOf rfl gw_1004 gw_1005 ⟨Nat.le_of_ble_eq_true rfl, Nat.le_of_ble_eq_true rfl⟩ (Nat.le_of_ble_eq_true rfl) (fun rv366 w366 _ => ?_)
  refine ee_kI (fun v366 => ?_)
  refine ee_istore (lv2 := [(5, .int v366), (0, .retAddr 5), (1, .ref l1), (2, .ref l2), (3, .ref l3), (4, .int l4)]) dL_law_369 (Nat.le_of_ble_eq_true rfl) rfl ?_
  refine ee_aload_n 3 dL_law_371 rfl ?_
  refine ee_aload_nT 1 dL_law_372 rfl ?_
  refine ee_iload 5 dL_law_373 rfl ?_
  refine ee_iconst (v := (1 : Int32)) dL_law_375 (by decide) ?_
  refine ee_iadd dL_law_376 ?_
  refine ee_sld dL_law_377 (fun v377 _ => ?_)
  refine ee_aload_nT 1 dL_law_378 rfl ?_
  refine ee_iload 5 dL_law_379 rfl ?_
  refine ee_iconst (v := (2 : Int32)) dL_law_381 (by decide) ?_
  refine ee_iadd dL_law_382 ?_
  refine ee_sld dL_law_383 (fun v383 _ => ?_)
  refine ee_bind (fun _ ho384 => ?_)
  refine ee_callV (as := [.int v377, .int v383]) (st := []) dL_law_384 (t_fD_byteOf l2 v377 v383 w366) my_fD_byteOf.1 (Nat.le_of_ble_eq_true rfl) my_fD_byteOf.2 rfl cf_10.1 rfl (p_obj_eq.mp ho384) gw_1386 gw_1387 gw_1388 ⟨Nat.le_of_ble_eq_true rfl, Nat.le_of_ble_eq_true rfl⟩ (Nat.le_of_ble_eq_true rfl) (fun rv384 w384 _ => ?_)
  refine ee_kI (fun v384 => ?_)
  refine ee_istore (lv2 := [(6, .int v384), (5, .int v366), (0, .retAddr 5), (1, .ref l1), (2, .ref l2), (3, .ref l3), (4, .int l4)]) dL_law_387 (Nat.le_of_ble_eq_true rfl) rfl ?_
  refine ee_aload_n 4 dL_law_389 rfl ?_
  refine ee_bind (fun _ ho390 => ?_)
  refine ee_callV (as := []) (st := []) dL_law_390 (t_fD_thrown l2 w384) my_fD_thrown.1 (Nat.le_of_ble_eq_true rfl) my_fD_thrown.2 rfl cf_10.1 rfl (p_obj_eq.mp ho390) gw_1307 gw_1308 gw_1309 ⟨Nat.le_of_ble_eq_true rfl, Nat.le_of_ble_eq_true rfl⟩ (Nat.le_of_ble_eq_true rfl) (fun rv390 w390 _ => ?_)
  refine ee_kI (fun v390 => ?_)
  refine ee_iload 1 dL_law_393 rfl ?_
  refine ee_icmp_eq (tgt := 400) dL_law_395 (by decide) (fun h395 => ?_) (fun h395 => ?_)
  · refine ee_iload 1 dL_law_400 rfl ?_
    refine ee_if_ne (tgt := 417) dL_law_402 (by decide) (fun h402 => ?_) (fun h402 => ?_)
    · refine ee_goto (tgt := 1222) dL_law_417 (by decide) ?_
      refine ee_iinc 6 dL_law_1222 rfl (e := (5 : Int32)) (by decide) (Nat.le_of_ble_eq_true rfl) (fun l4_1222 _ => ?_)
      refine ee_lv (lv2 := [(4, .int l4_1222), (6, .int v384), (5, .int v366), (0, .retAddr 5), (1, .ref l1), (2, .ref l2), (3, .ref l3)]) rfl ?_
      refine ee_goto (tgt := 43) dL_law_1225 (by decide) ?_
      refine ee_pick [3, 4, 5, 6, 0] rfl ?_
      exact hk_43 _ _ _ _ w390
    · refine ee_aload_n 5 dL_law_405 rfl ?_
      refine ee_iconst (v := (0 : Int32)) dL_law_406 (by decide) ?_
      refine ee_lald dL_law_407 (fun v407 _ => ?_)
      refine ee_iload 0 dL_law_408 rfl ?_
      refine ee_i2l dL_law_410 ?_
      refine ee_lcmp dL_law_411 ?_
      refine ee_if_eq (tgt := 417) dL_law_412 (by decide) (fun h412 => ?_) (fun h412 => ?_)
      · refine ee_goto (tgt := 1222) dL_law_417 (by decide) ?_
        refine ee_iinc 6 dL_law_1222 rfl (e := (5 : Int32)) (by decide) (Nat.le_of_ble_eq_true rfl) (fun l4_1222 _ => ?_)
        refine ee_lv (lv2 := [(4, .int l4_1222), (6, .int v384), (5, .int v366), (0, .retAddr 5), (1, .ref l1), (2, .ref l2), (3, .ref l3)]) rfl ?_
        refine ee_goto (tgt := 43) dL_law_1225 (by decide) ?_
        refine ee_pick [3, 4, 5, 6, 0] rfl ?_
        exact hk_43 _ _ _ _ w390
      · refine ee_iconst (v := (0 : Int32)) dL_law_415 (by decide) ?_
        exact ee_zret rfl dL_law_416
  · refine ee_iconst (v := (0 : Int32)) dL_law_398 (by decide) ?_
    exact ee_zret rfl dL_law_399
def fL_law_462 (S : Nat × (Nat → Int32)) (k_43 : Nat → Nat → Nat → Int32 → PW → PX) (l1 : Nat) (l2 : Nat) (l3 : Nat) (l4 : Int32) (l5 : Int32) (s0 : Int32) (s1 : Nat) (w : PW) : PX := (p_sld S (l4 + (2 : Int32))).bind fun v467 => (p_obj w s1 10).bind fun _ => p_call (fD_box s1 s0 v467 w) <| p_kI fun v468 w468 => (p_obj w468 l2 10).bind fun _ => p_call (fD_thrown l2 w468) <| p_kI fun v474 w474 => if v474 = l5 then (if ¬ l5 = 0 then (p_let (l4 + (5 : Int32)) fun (l4_1222 : Int32) => k_43 l1 l2 l3 l4_1222 w474) else ((p_aldJ w474 l3 (0 : Int32)).bind fun v491 => if (lg_cmp v491 (Int32.toInt64 v468)) = 0 then (p_let (l4 + (5 : Int32)) fun (l4_1222 : Int32) => k_43 l1 l2 l3 l4_1222 w474) else (p_retZ (0 : Int32) w474))) else (p_retZ (0 : Int32) w474)
set_option maxRecDepth 20000 in
set_option maxHeartbeats 2000000 in
theorem t_fL_law_462 {Γ : PG} {k_43 : Nat → Nat → Nat → Int32 → PW → PX} (hk_43 : ∀ (l1 : Nat) (l2 : Nat) (l3 : Nat) (l4 : Int32) (w : PW), EE Γ ML_law 43 [(0, .retAddr 5), (1, .ref l1), (2, .ref l2), (3, .ref l3), (4, .int l4)] [] w (k_43 l1 l2 l3 l4 w)) : ∀ (l1 : Nat) (l2 : Nat) (l3 : Nat) (l4 : Int32) (l5 : Int32) (s0 : Int32) (s1 : Nat) (w : PW), EE Γ ML_law 462 [(0, .retAddr 5), (1, .ref l1), (2, .ref l2), (3, .ref l3), (4, .int l4), (5, .int l5)] [.int s0, .ref s1] w (fL_law_462 (pg_S Γ) k_43 l1 l2 l3 l4 l5 s0 s1 w) := by
  intro l1 l2 l3 l4 l5 s0 s1 w
  unfold fL_law_462
  refine ee_aload_nT 0 dL_law_462 rfl ?_
  refine ee_iload 4 dL_law_463 rfl ?_
  refine ee_iconst (v := (2 : Int32)) dL_law_465 (by decide) ?_
  refine ee_iadd dL_law_466 ?_
  refine ee_sld dL_law_467 (fun v467 _ => ?_)
  refine ee_bind (fun _ ho468 => ?_)
  refine ee_callV (as := [.int s0, .int v467]) (st := []) dL_law_468 (t_fD_box s1 s0 v467 w) my_fD_box.1 (Nat.le_of_ble_eq_true rfl) my_fD_box.2 rfl cf_10.1 rfl (p_obj_eq.mp ho468) gw_1391 gw_1392 gw_1393 ⟨Nat.le_of_ble_eq_true rfl, Nat.le_of_ble_eq_true rfl⟩ (Nat.le_of_ble_eq_true rfl) (fun rv468 w468 _ => ?_)
  refine ee_kI (fun v468 => ?_)
  refine ee_istore (lv2 := [(6, .int v468), (0, .retAddr 5), (1, .ref l1), (2, .ref l2), (3, .ref l3), (4, .int l4), (5, .int l5)]) dL_law_471 (Nat.le_of_ble_eq_true rfl) rfl ?_
  refine ee_aload_n 3 dL_law_473 rfl ?_
  refine ee_bind (fun _ ho474 => ?_)
  refine ee_callV (as := []) (st := []) dL_law_474 (t_fD_thrown l2 w468) my_fD_thrown.1 (Nat.le_of_ble_eq_true rfl) my_fD_thrown.2 rfl cf_10.1 rfl (p_obj_eq.mp ho474) gw_1307 gw_1308 gw_1309 ⟨Nat.le_of_ble_eq_true rfl, Nat.le_of_ble_eq_true rfl⟩ (Nat.le_of_ble_eq_true rfl) (fun rv474 w474 _ => ?_)
  refine ee_kI (fun v474 => ?_)
  refine ee_iload 6 dL_law_477 rfl ?_
  refine ee_icmp_eq (tgt := 484) dL_law_479 (by decide) (fun h479 => ?_) (fun h479 => ?_)
  · refine ee_iload 6 dL_law_484 rfl ?_
    refine ee_if_ne (tgt := 501) dL_law_486 (by decide) (fun h486 => ?_) (fun h486 => ?_)
    · refine ee_goto (tgt := 1222) dL_law_501 (by decide) ?_
      refine ee_iinc 5 dL_law_1222 rfl (e := (5 : Int32)) (by decide) (Nat.le_of_ble_eq_true rfl) (fun l4_1222 _ => ?_)
      refine ee_lv (lv2 := [(4, .int l4_1222), (6, .int v468), (0, .retAddr 5), (1, .ref l1), (2, .ref l2), (3, .ref l3), (5, .int l5)]) rfl ?_
      refine ee_goto (tgt := 43) dL_law_1225 (by decide) ?_
      refine ee_pick [2, 3, 4, 5, 0] rfl ?_
      exact hk_43 _ _ _ _ w474
    · refine ee_aload_n 4 dL_law_489 rfl ?_
      refine ee_iconst (v := (0 : Int32)) dL_law_490 (by decide) ?_
      refine ee_lald dL_law_491 (fun v491 _ => ?_)
      refine ee_iload 0 dL_law_492 rfl ?_
      refine ee_i2l dL_law_494 ?_
      refine ee_lcmp dL_law_495 ?_
      refine ee_if_eq (tgt := 501) dL_law_496 (by decide) (fun h496 => ?_) (fun h496 => ?_)
      · refine ee_goto (tgt := 1222) dL_law_501 (by decide) ?_
        refine ee_iinc 5 dL_law_1222 rfl (e := (5 : Int32)) (by decide) (Nat.le_of_ble_eq_true rfl) (fun l4_1222 _ => ?_)
        refine ee_lv (lv2 := [(4, .int l4_1222), (6, .int v468), (0, .retAddr 5), (1, .ref l1), (2, .ref l2), (3, .ref l3), (5, .int l5)]) rfl ?_
        refine ee_goto (tgt := 43) dL_law_1225 (by decide) ?_
        refine ee_pick [2, 3, 4, 5, 0] rfl ?_
        exact hk_43 _ _ _ _ w474
      · refine ee_iconst (v := (0 : Int32)) dL_law_499 (by decide) ?_
        exact ee_zret rfl dL_law_500
  · refine ee_iconst (v := (0 : Int32)) dL_law_482 (by decide) ?_
    exact ee_zret rfl dL_law_483
def fL_law_435 (S : Nat × (Nat → Int32)) (k_43 : Nat → Nat → Nat → Int32 → PW → PX) (l1 : Nat) (l2 : Nat) (l3 : Nat) (l4 : Int32) (s0 : Int32) (s1 : Nat) (w : PW) : PX := (p_sld S (l4 + (2 : Int32))).bind fun v440 => p_call (fL_box s1 s0 v440 l3 w) <| p_kI fun v442 w442 => (p_sld S (l4 + (1 : Int32))).bind fun v453 => if v453 = 0 then (fL_law_462 S k_43 l1 l2 l3 l4 v442 (0 : Int32) l2 w442) else (fL_law_462 S k_43 l1 l2 l3 l4 v442 (1 : Int32) l2 w442)
set_option maxRecDepth 20000 in
set_option maxHeartbeats 2000000 in
theorem t_fL_law_435 {Γ : PG} {k_43 : Nat → Nat → Nat → Int32 → PW → PX} (hk_43 : ∀ (l1 : Nat) (l2 : Nat) (l3 : Nat) (l4 : Int32) (w : PW), EE Γ ML_law 43 [(0, .retAddr 5), (1, .ref l1), (2, .ref l2), (3, .ref l3), (4, .int l4)] [] w (k_43 l1 l2 l3 l4 w)) : ∀ (l1 : Nat) (l2 : Nat) (l3 : Nat) (l4 : Int32) (s0 : Int32) (s1 : Nat) (w : PW), EE Γ ML_law 435 [(0, .retAddr 5), (1, .ref l1), (2, .ref l2), (3, .ref l3), (4, .int l4)] [.int s0, .ref s1] w (fL_law_435 (pg_S Γ) k_43 l1 l2 l3 l4 s0 s1 w) := by
  intro l1 l2 l3 l4 s0 s1 w
  unfold fL_law_435
  refine ee_aload_nT 0 dL_law_435 rfl ?_
  refine ee_iload 4 dL_law_436 rfl ?_
  refine ee_iconst (v := (2 : Int32)) dL_law_438 (by decide) ?_
  refine ee_iadd dL_law_439 ?_
  refine ee_sld dL_law_440 (fun v440 _ => ?_)
  refine ee_aload_n 3 dL_law_441 rfl ?_
  refine ee_callSW (as := [.ref s1, .int s0, .int v440, .ref l3]) (st := []) dL_law_442 (t_fL_box s1 s0 v440 l3 w) ⟨by decide, rfl, by decide, by decide⟩ gw_1024 gw_52 (Nat.le_of_ble_eq_true rfl) my_fL_box rfl gw_1022 gw_1023 ⟨Nat.le_of_ble_eq_true rfl, Nat.le_of_ble_eq_true rfl⟩ (Nat.le_of_ble_eq_true rfl) (fun rv442 w442 _ => ?_)
  refine ee_kI (fun v442 => ?_)
  refine ee_istore (lv2 := [(5, .int v442), (0, .retAddr 5), (1, .ref l1), (2, .ref l2), (3, .ref l3), (4, .int l4)]) dL_law_445 (Nat.le_of_ble_eq_true rfl) rfl ?_
  refine ee_aload_n 3 dL_law_447 rfl ?_
  refine ee_aload_nT 1 dL_law_448 rfl ?_
  refine ee_iload 5 dL_law_449 rfl ?_
  refine ee_iconst (v := (1 : Int32)) dL_law_451 (by decide) ?_
  refine ee_iadd dL_law_452 ?_
  refine ee_sld dL_law_453 (fun v453 _ => ?_)
  refine ee_if_eq (tgt := 461) dL_law_454 (by decide) (fun h454 => ?_) (fun h454 => ?_)
  · refine ee_iconst (v := (0 : Int32)) dL_law_461 (by decide) ?_
    refine ee_pick [1, 2, 3, 4, 5, 0] rfl ?_
    exact t_fL_law_462 hk_43 _ _ _ _ _ _ _ w442
  · refine ee_iconst (v := (1 : Int32)) dL_law_457 (by decide) ?_
    refine ee_goto (tgt := 462) dL_law_458 (by decide) ?_
    refine ee_pick [1, 2, 3, 4, 5, 0] rfl ?_
    exact t_fL_law_462 hk_43 _ _ _ _ _ _ _ w442
def fL_law_420 (S : Nat × (Nat → Int32)) (k_43 : Nat → Nat → Nat → Int32 → PW → PX) (l1 : Nat) (l2 : Nat) (l3 : Nat) (l4 : Int32) (w : PW) : PX := (p_sld S (l4 + (1 : Int32))).bind fun v426 => if v426 = 0 then (fL_law_435 S k_43 l1 l2 l3 l4 (0 : Int32) l1 w) else (fL_law_435 S k_43 l1 l2 l3 l4 (1 : Int32) l1 w)
set_option maxRecDepth 20000 in
set_option maxHeartbeats 2000000 in
theorem t_fL_law_420 {Γ : PG} {k_43 : Nat → Nat → Nat → Int32 → PW → PX} (hk_43 : ∀ (l1 : Nat) (l2 : Nat) (l3 : Nat) (l4 : Int32) (w : PW), EE Γ ML_law 43 [(0, .retAddr 5), (1, .ref l1), (2, .ref l2), (3, .ref l3), (4, .int l4)] [] w (k_43 l1 l2 l3 l4 w)) : ∀ (l1 : Nat) (l2 : Nat) (l3 : Nat) (l4 : Int32) (w : PW), EE Γ ML_law 420 [(0, .retAddr 5), (1, .ref l1), (2, .ref l2), (3, .ref l3), (4, .int l4)] [] w (fL_law_420 (pg_S Γ) k_43 l1 l2 l3 l4 w) := by
  intro l1 l2 l3 l4 w
  unfold fL_law_420
  refine ee_aload_n 1 dL_law_420 rfl ?_
  refine ee_aload_nT 0 dL_law_421 rfl ?_
  refine ee_iload 4 dL_law_422 rfl ?_
  refine ee_iconst (v := (1 : Int32)) dL_law_424 (by decide) ?_
  refine ee_iadd dL_law_425 ?_
  refine ee_sld dL_law_426 (fun v426 _ => ?_)
  refine ee_if_eq (tgt := 434) dL_law_427 (by decide) (fun h427 => ?_) (fun h427 => ?_)
  · refine ee_iconst (v := (0 : Int32)) dL_law_434 (by decide) ?_
    exact t_fL_law_435 hk_43 _ _ _ _ _ _ w
  · refine ee_iconst (v := (1 : Int32)) dL_law_430 (by decide) ?_
    refine ee_goto (tgt := 435) dL_law_431 (by decide) ?_
    exact t_fL_law_435 hk_43 _ _ _ _ _ _ w
def fL_law_504 (S : Nat × (Nat → Int32)) (k_43 : Nat → Nat → Nat → Int32 → PW → PX) (l1 : Nat) (l2 : Nat) (l3 : Nat) (l4 : Int32) (w : PW) : PX := (p_sld S (l4 + (1 : Int32))).bind fun v510 => (p_sld S (l4 + (2 : Int32))).bind fun v516 => p_call (fL_boxByte l1 v510 v516 l3 w) <| p_kI fun v518 w518 => (p_sld S (l4 + (1 : Int32))).bind fun v529 => (p_sld S (l4 + (2 : Int32))).bind fun v535 => (p_obj w518 l2 10).bind fun _ => p_call (fD_boxByte l2 v529 v535 w518) <| p_kI fun v536 w536 => (p_obj w536 l2 10).bind fun _ => p_call (fD_thrown l2 w536) <| p_kI fun v542 w542 => if v542 = v518 then (if ¬ v518 = 0 then (p_let (l4 + (5 : Int32)) fun (l4_1222 : Int32) => k_43 l1 l2 l3 l4_1222 w542) else ((p_aldJ w542 l3 (0 : Int32)).bind fun v559 => if (lg_cmp v559 (Int32.toInt64 v536)) = 0 then (p_let (l4 + (5 : Int32)) fun (l4_1222 : Int32) => k_43 l1 l2 l3 l4_1222 w542) else (p_retZ (0 : Int32) w542))) else (p_retZ (0 : Int32) w542)
set_option maxRecDepth 20000 in
set_option maxHeartbeats 2000000 in
theorem t_fL_law_504 {Γ : PG} {k_43 : Nat → Nat → Nat → Int32 → PW → PX} (hk_43 : ∀ (l1 : Nat) (l2 : Nat) (l3 : Nat) (l4 : Int32) (w : PW), EE Γ ML_law 43 [(0, .retAddr 5), (1, .ref l1), (2, .ref l2), (3, .ref l3), (4, .int l4)] [] w (k_43 l1 l2 l3 l4 w)) : ∀ (l1 : Nat) (l2 : Nat) (l3 : Nat) (l4 : Int32) (w : PW), EE Γ ML_law 504 [(0, .retAddr 5), (1, .ref l1), (2, .ref l2), (3, .ref l3), (4, .int l4)] [] w (fL_law_504 (pg_S Γ) k_43 l1 l2 l3 l4 w) := by
  intro l1 l2 l3 l4 w
  unfold fL_law_504
  refine ee_aload_n 1 dL_law_504 rfl ?_
  refine ee_aload_nT 0 dL_law_505 rfl ?_
  refine ee_iload 4 dL_law_506 rfl ?_
  refine ee_iconst (v := (1 : Int32)) dL_law_508 (by decide) ?_
  refine ee_iadd dL_law_509 ?_
  refine ee_sld dL_law_510 (fun v510 _ => ?_)
  refine ee_aload_nT 0 dL_law_511 rfl ?_
  refine ee_iload 4 dL_law_512 rfl ?_
  refine ee_iconst (v := (2 : Int32)) dL_law_514 (by decide) ?_
  refine ee_iadd dL_law_515 ?_
  refine ee_sld dL_law_516 (fun v516 _ => ?_)
  refine ee_aload_n 3 dL_law_517 rfl ?_
  refine ee_callSW (as := [.ref l1, .int v510, .int v516, .ref l3]) (st := []) dL_law_518 (t_fL_boxByte l1 v510 v516 l3 w) ⟨by decide, rfl, by decide, by decide⟩ gw_1066 gw_52 (Nat.le_of_ble_eq_true rfl) my_fL_boxByte rfl gw_1064 gw_1065 ⟨Nat.le_of_ble_eq_true rfl, Nat.le_of_ble_eq_true rfl⟩ (Nat.le_of_ble_eq_true rfl) (fun rv518 w518 _ => ?_)
  refine ee_kI (fun v518 => ?_)
  refine ee_istore (lv2 := [(5, .int v518), (0, .retAddr 5), (1, .ref l1), (2, .ref l2), (3, .ref l3), (4, .int l4)]) dL_law_521 (Nat.le_of_ble_eq_true rfl) rfl ?_
  refine ee_aload_n 3 dL_law_523 rfl ?_
  refine ee_aload_nT 1 dL_law_524 rfl ?_
  refine ee_iload 5 dL_law_525 rfl ?_
  refine ee_iconst (v := (1 : Int32)) dL_law_527 (by decide) ?_
  refine ee_iadd dL_law_528 ?_
  refine ee_sld dL_law_529 (fun v529 _ => ?_)
  refine ee_aload_nT 1 dL_law_530 rfl ?_
  refine ee_iload 5 dL_law_531 rfl ?_
  refine ee_iconst (v := (2 : Int32)) dL_law_533 (by decide) ?_
  refine ee_iadd dL_law_534 ?_
  refine ee_sld dL_law_535 (fun v535 _ => ?_)
  refine ee_bind (fun _ ho536 => ?_)
  refine ee_callV (as := [.int v529, .int v535]) (st := []) dL_law_536 (t_fD_boxByte l2 v529 v535 w518) my_fD_boxByte.1 (Nat.le_of_ble_eq_true rfl) my_fD_boxByte.2 rfl cf_10.1 rfl (p_obj_eq.mp ho536) gw_1405 gw_1406 gw_1407 ⟨Nat.le_of_ble_eq_true rfl, Nat.le_of_ble_eq_true rfl⟩ (Nat.le_of_ble_eq_true rfl) (fun rv536 w536 _ => ?_)
  refine ee_kI (fun v536 => ?_)
  refine ee_istore (lv2 := [(6, .int v536), (5, .int v518), (0, .retAddr 5), (1, .ref l1), (2, .ref l2), (3, .ref l3), (4, .int l4)]) dL_law_539 (Nat.le_of_ble_eq_true rfl) rfl ?_
  refine ee_aload_n 4 dL_law_541 rfl ?_
  refine ee_bind (fun _ ho542 => ?_)
  refine ee_callV (as := []) (st := []) dL_law_542 (t_fD_thrown l2 w536) my_fD_thrown.1 (Nat.le_of_ble_eq_true rfl) my_fD_thrown.2 rfl cf_10.1 rfl (p_obj_eq.mp ho542) gw_1307 gw_1308 gw_1309 ⟨Nat.le_of_ble_eq_true rfl, Nat.le_of_ble_eq_true rfl⟩ (Nat.le_of_ble_eq_true rfl) (fun rv542 w542 _ => ?_)
  refine ee_kI (fun v542 => ?_)
  refine ee_iload 1 dL_law_545 rfl ?_
  refine ee_icmp_eq (tgt := 552) dL_law_547 (by decide) (fun h547 => ?_) (fun h547 => ?_)
  · refine ee_iload 1 dL_law_552 rfl ?_
    refine ee_if_ne (tgt := 569) dL_law_554 (by decide) (fun h554 => ?_) (fun h554 => ?_)
    · refine ee_goto (tgt := 1222) dL_law_569 (by decide) ?_
      refine ee_iinc 6 dL_law_1222 rfl (e := (5 : Int32)) (by decide) (Nat.le_of_ble_eq_true rfl) (fun l4_1222 _ => ?_)
      refine ee_lv (lv2 := [(4, .int l4_1222), (6, .int v536), (5, .int v518), (0, .retAddr 5), (1, .ref l1), (2, .ref l2), (3, .ref l3)]) rfl ?_
      refine ee_goto (tgt := 43) dL_law_1225 (by decide) ?_
      refine ee_pick [3, 4, 5, 6, 0] rfl ?_
      exact hk_43 _ _ _ _ w542
    · refine ee_aload_n 5 dL_law_557 rfl ?_
      refine ee_iconst (v := (0 : Int32)) dL_law_558 (by decide) ?_
      refine ee_lald dL_law_559 (fun v559 _ => ?_)
      refine ee_iload 0 dL_law_560 rfl ?_
      refine ee_i2l dL_law_562 ?_
      refine ee_lcmp dL_law_563 ?_
      refine ee_if_eq (tgt := 569) dL_law_564 (by decide) (fun h564 => ?_) (fun h564 => ?_)
      · refine ee_goto (tgt := 1222) dL_law_569 (by decide) ?_
        refine ee_iinc 6 dL_law_1222 rfl (e := (5 : Int32)) (by decide) (Nat.le_of_ble_eq_true rfl) (fun l4_1222 _ => ?_)
        refine ee_lv (lv2 := [(4, .int l4_1222), (6, .int v536), (5, .int v518), (0, .retAddr 5), (1, .ref l1), (2, .ref l2), (3, .ref l3)]) rfl ?_
        refine ee_goto (tgt := 43) dL_law_1225 (by decide) ?_
        refine ee_pick [3, 4, 5, 6, 0] rfl ?_
        exact hk_43 _ _ _ _ w542
      · refine ee_iconst (v := (0 : Int32)) dL_law_567 (by decide) ?_
        exact ee_zret rfl dL_law_568
  · refine ee_iconst (v := (0 : Int32)) dL_law_550 (by decide) ?_
    exact ee_zret rfl dL_law_551
def fL_law_572 (S : Nat × (Nat → Int32)) (k_43 : Nat → Nat → Nat → Int32 → PW → PX) (l1 : Nat) (l2 : Nat) (l3 : Nat) (l4 : Int32) (w : PW) : PX := (p_obj w l1 0).bind fun _ => p_call (fW_write l1 w) <| p_kI fun v573 w573 => (p_obj w573 l2 10).bind fun _ => p_call (fD_write l2 w573) <| p_kI fun v577 w577 => if v573 = v577 then (p_let (l4 + (5 : Int32)) fun (l4_1222 : Int32) => k_43 l1 l2 l3 l4_1222 w577) else (p_retZ (0 : Int32) w577)
set_option maxRecDepth 20000 in
set_option maxHeartbeats 2000000 in
theorem t_fL_law_572 {Γ : PG} {k_43 : Nat → Nat → Nat → Int32 → PW → PX} (hk_43 : ∀ (l1 : Nat) (l2 : Nat) (l3 : Nat) (l4 : Int32) (w : PW), EE Γ ML_law 43 [(0, .retAddr 5), (1, .ref l1), (2, .ref l2), (3, .ref l3), (4, .int l4)] [] w (k_43 l1 l2 l3 l4 w)) : ∀ (l1 : Nat) (l2 : Nat) (l3 : Nat) (l4 : Int32) (w : PW), EE Γ ML_law 572 [(0, .retAddr 5), (1, .ref l1), (2, .ref l2), (3, .ref l3), (4, .int l4)] [] w (fL_law_572 (pg_S Γ) k_43 l1 l2 l3 l4 w) := by
  intro l1 l2 l3 l4 w
  unfold fL_law_572
  refine ee_aload_n 1 dL_law_572 rfl ?_
  refine ee_bind (fun _ ho573 => ?_)
  refine ee_callV (as := []) (st := []) dL_law_573 (t_fW_write l1 w) my_fW_write.1 (Nat.le_of_ble_eq_true rfl) my_fW_write.2 rfl cf_0.1 rfl (p_obj_eq.mp ho573) gw_356 gw_357 gw_358 ⟨Nat.le_of_ble_eq_true rfl, Nat.le_of_ble_eq_true rfl⟩ (Nat.le_of_ble_eq_true rfl) (fun rv573 w573 _ => ?_)
  refine ee_kI (fun v573 => ?_)
  refine ee_aload_n 2 dL_law_576 rfl ?_
  refine ee_bind (fun _ ho577 => ?_)
  refine ee_callV (as := []) (st := [.int v573]) dL_law_577 (t_fD_write l2 w573) my_fD_write.1 (Nat.le_of_ble_eq_true rfl) my_fD_write.2 rfl cf_10.1 rfl (p_obj_eq.mp ho577) gw_1409 gw_1410 gw_1411 ⟨Nat.le_of_ble_eq_true rfl, Nat.le_of_ble_eq_true rfl⟩ (Nat.le_of_ble_eq_true rfl) (fun rv577 w577 _ => ?_)
  refine ee_kI (fun v577 => ?_)
  refine ee_icmp_eq (tgt := 1222) dL_law_580 (by decide) (fun h580 => ?_) (fun h580 => ?_)
  · refine ee_iinc 4 dL_law_1222 rfl (e := (5 : Int32)) (by decide) (Nat.le_of_ble_eq_true rfl) (fun l4_1222 _ => ?_)
    refine ee_lv (lv2 := [(4, .int l4_1222), (0, .retAddr 5), (1, .ref l1), (2, .ref l2), (3, .ref l3)]) rfl ?_
    refine ee_goto (tgt := 43) dL_law_1225 (by decide) ?_
    refine ee_pick [1, 2, 3, 4, 0] rfl ?_
    exact hk_43 _ _ _ _ w577
  · refine ee_iconst (v := (0 : Int32)) dL_law_583 (by decide) ?_
    exact ee_zret rfl dL_law_584
def fL_law_585 (S : Nat × (Nat → Int32)) (k_43 : Nat → Nat → Nat → Int32 → PW → PX) (l1 : Nat) (l2 : Nat) (l3 : Nat) (l4 : Int32) (w : PW) : PX := (p_sld S (l4 + (1 : Int32))).bind fun v591 => p_call (fL_byteAt l1 v591 l3 w) <| p_kI fun v593 w593 => (p_sld S (l4 + (1 : Int32))).bind fun v604 => (p_obj w593 l2 10).bind fun _ => p_call (fD_byteAt l2 v604 w593) <| p_kI fun v605 w605 => (p_obj w605 l2 10).bind fun _ => p_call (fD_thrown l2 w605) <| p_kI fun v611 w611 => if v611 = v593 then (if ¬ v593 = 0 then (p_let (l4 + (5 : Int32)) fun (l4_1222 : Int32) => k_43 l1 l2 l3 l4_1222 w611) else ((p_aldJ w611 l3 (0 : Int32)).bind fun v628 => if (lg_cmp v628 (Int32.toInt64 v605)) = 0 then (p_let (l4 + (5 : Int32)) fun (l4_1222 : Int32) => k_43 l1 l2 l3 l4_1222 w611) else (p_retZ (0 : Int32) w611))) else (p_retZ (0 : Int32) w611)
set_option maxRecDepth 20000 in
set_option maxHeartbeats 2000000 in
theorem t_fL_law_585 {Γ : PG} {k_43 : Nat → Nat → Nat → Int32 → PW → PX} (hk_43 : ∀ (l1 : Nat) (l2 : Nat) (l3 : Nat) (l4 : Int32) (w : PW), EE Γ ML_law 43 [(0, .retAddr 5), (1, .ref l1), (2, .ref l2), (3, .ref l3), (4, .int l4)] [] w (k_43 l1 l2 l3 l4 w)) : ∀ (l1 : Nat) (l2 : Nat) (l3 : Nat) (l4 : Int32) (w : PW), EE Γ ML_law 585 [(0, .retAddr 5), (1, .ref l1), (2, .ref l2), (3, .ref l3), (4, .int l4)] [] w (fL_law_585 (pg_S Γ) k_43 l1 l2 l3 l4 w) := by
  intro l1 l2 l3 l4 w
  unfold fL_law_585
  refine ee_aload_n 1 dL_law_585 rfl ?_
  refine ee_aload_nT 0 dL_law_586 rfl ?_
  refine ee_iload 4 dL_law_587 rfl ?_
  refine ee_iconst (v := (1 : Int32)) dL_law_589 (by decide) ?_
  refine ee_iadd dL_law_590 ?_
  refine ee_sld dL_law_591 (fun v591 _ => ?_)
  refine ee_aload_n 3 dL_law_592 rfl ?_
  refine ee_callSW (as := [.ref l1, .int v591, .ref l3]) (st := []) dL_law_593 (t_fL_byteAt l1 v591 l3 w) ⟨by decide, rfl, by decide, by decide⟩ gw_1075 gw_52 (Nat.le_of_ble_eq_true rfl) my_fL_byteAt rfl gw_1073 gw_1074 ⟨Nat.le_of_ble_eq_true rfl, Nat.le_of_ble_eq_true rfl⟩ (Nat.le_of_ble_eq_true rfl) (fun rv593 w593 _ => ?_)
  refine ee_kI (fun v593 => ?_)
  refine ee_istore (lv2 := [(5, .int v593), (0, .retAddr 5), (1, .ref l1), (2, .ref l2), (3, .ref l3), (4, .int l4)]) dL_law_596 (Nat.le_of_ble_eq_true rfl) rfl ?_
  refine ee_aload_n 3 dL_law_598 rfl ?_
  refine ee_aload_nT 1 dL_law_599 rfl ?_
  refine ee_iload 5 dL_law_600 rfl ?_
  refine ee_iconst (v := (1 : Int32)) dL_law_602 (by decide) ?_
  refine ee_iadd dL_law_603 ?_
  refine ee_sld dL_law_604 (fun v604 _ => ?_)
  refine ee_bind (fun _ ho605 => ?_)
  refine ee_callV (as := [.int v604]) (st := []) dL_law_605 (t_fD_byteAt l2 v604 w593) my_fD_byteAt.1 (Nat.le_of_ble_eq_true rfl) my_fD_byteAt.2 rfl cf_10.1 rfl (p_obj_eq.mp ho605) gw_1463 gw_1464 gw_1465 ⟨Nat.le_of_ble_eq_true rfl, Nat.le_of_ble_eq_true rfl⟩ (Nat.le_of_ble_eq_true rfl) (fun rv605 w605 _ => ?_)
  refine ee_kI (fun v605 => ?_)
  refine ee_istore (lv2 := [(6, .int v605), (5, .int v593), (0, .retAddr 5), (1, .ref l1), (2, .ref l2), (3, .ref l3), (4, .int l4)]) dL_law_608 (Nat.le_of_ble_eq_true rfl) rfl ?_
  refine ee_aload_n 4 dL_law_610 rfl ?_
  refine ee_bind (fun _ ho611 => ?_)
  refine ee_callV (as := []) (st := []) dL_law_611 (t_fD_thrown l2 w605) my_fD_thrown.1 (Nat.le_of_ble_eq_true rfl) my_fD_thrown.2 rfl cf_10.1 rfl (p_obj_eq.mp ho611) gw_1307 gw_1308 gw_1309 ⟨Nat.le_of_ble_eq_true rfl, Nat.le_of_ble_eq_true rfl⟩ (Nat.le_of_ble_eq_true rfl) (fun rv611 w611 _ => ?_)
  refine ee_kI (fun v611 => ?_)
  refine ee_iload 1 dL_law_614 rfl ?_
  refine ee_icmp_eq (tgt := 621) dL_law_616 (by decide) (fun h616 => ?_) (fun h616 => ?_)
  · refine ee_iload 1 dL_law_621 rfl ?_
    refine ee_if_ne (tgt := 638) dL_law_623 (by decide) (fun h623 => ?_) (fun h623 => ?_)
    · refine ee_goto (tgt := 1222) dL_law_638 (by decide) ?_
      refine ee_iinc 6 dL_law_1222 rfl (e := (5 : Int32)) (by decide) (Nat.le_of_ble_eq_true rfl) (fun l4_1222 _ => ?_)
      refine ee_lv (lv2 := [(4, .int l4_1222), (6, .int v605), (5, .int v593), (0, .retAddr 5), (1, .ref l1), (2, .ref l2), (3, .ref l3)]) rfl ?_
      refine ee_goto (tgt := 43) dL_law_1225 (by decide) ?_
      refine ee_pick [3, 4, 5, 6, 0] rfl ?_
      exact hk_43 _ _ _ _ w611
    · refine ee_aload_n 5 dL_law_626 rfl ?_
      refine ee_iconst (v := (0 : Int32)) dL_law_627 (by decide) ?_
      refine ee_lald dL_law_628 (fun v628 _ => ?_)
      refine ee_iload 0 dL_law_629 rfl ?_
      refine ee_i2l dL_law_631 ?_
      refine ee_lcmp dL_law_632 ?_
      refine ee_if_eq (tgt := 638) dL_law_633 (by decide) (fun h633 => ?_) (fun h633 => ?_)
      · refine ee_goto (tgt := 1222) dL_law_638 (by decide) ?_
        refine ee_iinc 6 dL_law_1222 rfl (e := (5 : Int32)) (by decide) (Nat.le_of_ble_eq_true rfl) (fun l4_1222 _ => ?_)
        refine ee_lv (lv2 := [(4, .int l4_1222), (6, .int v605), (5, .int v593), (0, .retAddr 5), (1, .ref l1), (2, .ref l2), (3, .ref l3)]) rfl ?_
        refine ee_goto (tgt := 43) dL_law_1225 (by decide) ?_
        refine ee_pick [3, 4, 5, 6, 0] rfl ?_
        exact hk_43 _ _ _ _ w611
      · refine ee_iconst (v := (0 : Int32)) dL_law_636 (by decide) ?_
        exact ee_zret rfl dL_law_637
  · refine ee_iconst (v := (0 : Int32)) dL_law_619 (by decide) ?_
    exact ee_zret rfl dL_law_620
def fL_law_641 (S : Nat × (Nat → Int32)) (k_43 : Nat → Nat → Nat → Int32 → PW → PX) (l1 : Nat) (l2 : Nat) (l3 : Nat) (l4 : Int32) (w : PW) : PX := (p_sld S (l4 + (1 : Int32))).bind fun v647 => p_call (fL_feed l1 v647 l3 w) <| p_kI fun v649 w649 => (p_sld S (l4 + (1 : Int32))).bind fun v660 => (p_obj w649 l2 10).bind fun _ => p_call (fD_feed l2 v660 w649) <| p_kI fun v661 w661 => (p_obj w661 l2 10).bind fun _ => p_call (fD_thrown l2 w661) <| p_kI fun v667 w667 => if v667 = v649 then (if ¬ v649 = 0 then (p_let (l4 + (5 : Int32)) fun (l4_1222 : Int32) => k_43 l1 l2 l3 l4_1222 w667) else ((p_aldJ w667 l3 (0 : Int32)).bind fun v684 => if (lg_cmp v684 (Int32.toInt64 v661)) = 0 then (p_let (l4 + (5 : Int32)) fun (l4_1222 : Int32) => k_43 l1 l2 l3 l4_1222 w667) else (p_retZ (0 : Int32) w667))) else (p_retZ (0 : Int32) w667)
set_option maxRecDepth 20000 in
set_option maxHeartbeats 2000000 in
theorem t_fL_law_641 {Γ : PG} {k_43 : Nat → Nat → Nat → Int32 → PW → PX} (hk_43 : ∀ (l1 : Nat) (l2 : Nat) (l3 : Nat) (l4 : Int32) (w : PW), EE Γ ML_law 43 [(0, .retAddr 5), (1, .ref l1), (2, .ref l2), (3, .ref l3), (4, .int l4)] [] w (k_43 l1 l2 l3 l4 w)) : ∀ (l1 : Nat) (l2 : Nat) (l3 : Nat) (l4 : Int32) (w : PW), EE Γ ML_law 641 [(0, .retAddr 5), (1, .ref l1), (2, .ref l2), (3, .ref l3), (4, .int l4)] [] w (fL_law_641 (pg_S Γ) k_43 l1 l2 l3 l4 w) := by
  intro l1 l2 l3 l4 w
  unfold fL_law_641
  refine ee_aload_n 1 dL_law_641 rfl ?_
  refine ee_aload_nT 0 dL_law_642 rfl ?_
  refine ee_iload 4 dL_law_643 rfl ?_
  refine ee_iconst (v := (1 : Int32)) dL_law_645 (by decide) ?_
  refine ee_iadd dL_law_646 ?_
  refine ee_sld dL_law_647 (fun v647 _ => ?_)
  refine ee_aload_n 3 dL_law_648 rfl ?_
  refine ee_callSW (as := [.ref l1, .int v647, .ref l3]) (st := []) dL_law_649 (t_fL_feed l1 v647 l3 w) ⟨by decide, rfl, by decide, by decide⟩ gw_1084 gw_52 (Nat.le_of_ble_eq_true rfl) my_fL_feed rfl gw_1082 gw_1083 ⟨Nat.le_of_ble_eq_true rfl, Nat.le_of_ble_eq_true rfl⟩ (Nat.le_of_ble_eq_true rfl) (fun rv649 w649 _ => ?_)
  refine ee_kI (fun v649 => ?_)
  refine ee_istore (lv2 := [(5, .int v649), (0, .retAddr 5), (1, .ref l1), (2, .ref l2), (3, .ref l3), (4, .int l4)]) dL_law_652 (Nat.le_of_ble_eq_true rfl) rfl ?_
  refine ee_aload_n 3 dL_law_654 rfl ?_
  refine ee_aload_nT 1 dL_law_655 rfl ?_
  refine ee_iload 5 dL_law_656 rfl ?_
  refine ee_iconst (v := (1 : Int32)) dL_law_658 (by decide) ?_
  refine ee_iadd dL_law_659 ?_
  refine ee_sld dL_law_660 (fun v660 _ => ?_)
  refine ee_bind (fun _ ho661 => ?_)
  refine ee_callV (as := [.int v660]) (st := []) dL_law_661 (t_fD_feed l2 v660 w649) my_fD_feed.1 (Nat.le_of_ble_eq_true rfl) my_fD_feed.2 rfl cf_10.1 rfl (p_obj_eq.mp ho661) gw_1467 gw_1468 gw_1469 ⟨Nat.le_of_ble_eq_true rfl, Nat.le_of_ble_eq_true rfl⟩ (Nat.le_of_ble_eq_true rfl) (fun rv661 w661 _ => ?_)
  refine ee_kI (fun v661 => ?_)
  refine ee_istore (lv2 := [(6, .int v661), (5, .int v649), (0, .retAddr 5), (1, .ref l1), (2, .ref l2), (3, .ref l3), (4, .int l4)]) dL_law_664 (Nat.le_of_ble_eq_true rfl) rfl ?_
  refine ee_aload_n 4 dL_law_666 rfl ?_
  refine ee_bind (fun _ ho667 => ?_)
  refine ee_callV (as := []) (st := []) dL_law_667 (t_fD_thrown l2 w661) my_fD_thrown.1 (Nat.le_of_ble_eq_true rfl) my_fD_thrown.2 rfl cf_10.1 rfl (p_obj_eq.mp ho667) gw_1307 gw_1308 gw_1309 ⟨Nat.le_of_ble_eq_true rfl, Nat.le_of_ble_eq_true rfl⟩ (Nat.le_of_ble_eq_true rfl) (fun rv667 w667 _ => ?_)
  refine ee_kI (fun v667 => ?_)
  refine ee_iload 1 dL_law_670 rfl ?_
  refine ee_icmp_eq (tgt := 677) dL_law_672 (by decide) (fun h672 => ?_) (fun h672 => ?_)
  · refine ee_iload 1 dL_law_677 rfl ?_
    refine ee_if_ne (tgt := 694) dL_law_679 (by decide) (fun h679 => ?_) (fun h679 => ?_)
    · refine ee_goto (tgt := 1222) dL_law_694 (by decide) ?_
      refine ee_iinc 6 dL_law_1222 rfl (e := (5 : Int32)) (by decide) (Nat.le_of_ble_eq_true rfl) (fun l4_1222 _ => ?_)
      refine ee_lv (lv2 := [(4, .int l4_1222), (6, .int v661), (5, .int v649), (0, .retAddr 5), (1, .ref l1), (2, .ref l2), (3, .ref l3)]) rfl ?_
      refine ee_goto (tgt := 43) dL_law_1225 (by decide) ?_
      refine ee_pick [3, 4, 5, 6, 0] rfl ?_
      exact hk_43 _ _ _ _ w667
    · refine ee_aload_n 5 dL_law_682 rfl ?_
      refine ee_iconst (v := (0 : Int32)) dL_law_683 (by decide) ?_
      refine ee_lald dL_law_684 (fun v684 _ => ?_)
      refine ee_iload 0 dL_law_685 rfl ?_
      refine ee_i2l dL_law_687 ?_
      refine ee_lcmp dL_law_688 ?_
      refine ee_if_eq (tgt := 694) dL_law_689 (by decide) (fun h689 => ?_) (fun h689 => ?_)
      · refine ee_goto (tgt := 1222) dL_law_694 (by decide) ?_
        refine ee_iinc 6 dL_law_1222 rfl (e := (5 : Int32)) (by decide) (Nat.le_of_ble_eq_true rfl) (fun l4_1222 _ => ?_)
        refine ee_lv (lv2 := [(4, .int l4_1222), (6, .int v661), (5, .int v649), (0, .retAddr 5), (1, .ref l1), (2, .ref l2), (3, .ref l3)]) rfl ?_
        refine ee_goto (tgt := 43) dL_law_1225 (by decide) ?_
        refine ee_pick [3, 4, 5, 6, 0] rfl ?_
        exact hk_43 _ _ _ _ w667
      · refine ee_iconst (v := (0 : Int32)) dL_law_692 (by decide) ?_
        exact ee_zret rfl dL_law_693
  · refine ee_iconst (v := (0 : Int32)) dL_law_675 (by decide) ?_
    exact ee_zret rfl dL_law_676
def fL_law_697 (S : Nat × (Nat → Int32)) (k_43 : Nat → Nat → Nat → Int32 → PW → PX) (l1 : Nat) (l2 : Nat) (l3 : Nat) (l4 : Int32) (w : PW) : PX := (p_sld S (l4 + (1 : Int32))).bind fun v703 => (p_sld S (l4 + (2 : Int32))).bind fun v709 => p_call (fL_pass l1 v703 v709 l3 w) <| p_kI fun v711 w711 => (p_sld S (l4 + (1 : Int32))).bind fun v722 => (p_sld S (l4 + (2 : Int32))).bind fun v728 => (p_obj w711 l2 10).bind fun _ => p_call (fD_pass l2 v722 v728 w711) <| p_kI fun v729 w729 => (p_obj w729 l2 10).bind fun _ => p_call (fD_thrown l2 w729) <| p_kI fun v735 w735 => if v735 = v711 then (if ¬ v711 = 0 then (p_let (l4 + (5 : Int32)) fun (l4_1222 : Int32) => k_43 l1 l2 l3 l4_1222 w735) else ((p_aldJ w735 l3 (0 : Int32)).bind fun v752 => if (lg_cmp v752 (Int32.toInt64 v729)) = 0 then (p_let (l4 + (5 : Int32)) fun (l4_1222 : Int32) => k_43 l1 l2 l3 l4_1222 w735) else (p_retZ (0 : Int32) w735))) else (p_retZ (0 : Int32) w735)
set_option maxRecDepth 20000 in
set_option maxHeartbeats 2000000 in
theorem t_fL_law_697 {Γ : PG} {k_43 : Nat → Nat → Nat → Int32 → PW → PX} (hk_43 : ∀ (l1 : Nat) (l2 : Nat) (l3 : Nat) (l4 : Int32) (w : PW), EE Γ ML_law 43 [(0, .retAddr 5), (1, .ref l1), (2, .ref l2), (3, .ref l3), (4, .int l4)] [] w (k_43 l1 l2 l3 l4 w)) : ∀ (l1 : Nat) (l2 : Nat) (l3 : Nat) (l4 : Int32) (w : PW), EE Γ ML_law 697 [(0, .retAddr 5), (1, .ref l1), (2, .ref l2), (3, .ref l3), (4, .int l4)] [] w (fL_law_697 (pg_S Γ) k_43 l1 l2 l3 l4 w) := by
  intro l1 l2 l3 l4 w
  unfold fL_law_697
  refine ee_aload_n 1 dL_law_697 rfl ?_
  refine ee_aload_nT 0 dL_law_698 rfl ?_
  refine ee_iload 4 dL_law_699 rfl ?_
  refine ee_iconst (v := (1 : Int32)) dL_law_701 (by decide) ?_
  refine ee_iadd dL_law_702 ?_
  refine ee_sld dL_law_703 (fun v703 _ => ?_)
  refine ee_aload_nT 0 dL_law_704 rfl ?_
  refine ee_iload 4 dL_law_705 rfl ?_
  refine ee_iconst (v := (2 : Int32)) dL_law_707 (by decide) ?_
  refine ee_iadd dL_law_708 ?_
  refine ee_sld dL_law_709 (fun v709 _ => ?_)
  refine ee_aload_n 3 dL_law_710 rfl ?_
  refine ee_callSW (as := [.ref l1, .int v703, .int v709, .ref l3]) (st := []) dL_law_711 (t_fL_pass l1 v703 v709 l3 w) ⟨by decide, rfl, by decide, by decide⟩ gw_1091 gw_52 (Nat.le_of_ble_eq_true rfl) my_fL_pass rfl gw_1089 gw_1090 ⟨Nat.le_of_ble_eq_true rfl, Nat.le_of_ble_eq_true rfl⟩ (Nat.le_of_ble_eq_true rfl) (fun rv711 w711 _ => ?_)
  refine ee_kI (fun v711 => ?_)
  refine ee_istore (lv2 := [(5, .int v711), (0, .retAddr 5), (1, .ref l1), (2, .ref l2), (3, .ref l3), (4, .int l4)]) dL_law_714 (Nat.le_of_ble_eq_true rfl) rfl ?_
  refine ee_aload_n 3 dL_law_716 rfl ?_
  refine ee_aload_nT 1 dL_law_717 rfl ?_
  refine ee_iload 5 dL_law_718 rfl ?_
  refine ee_iconst (v := (1 : Int32)) dL_law_720 (by decide) ?_
  refine ee_iadd dL_law_721 ?_
  refine ee_sld dL_law_722 (fun v722 _ => ?_)
  refine ee_aload_nT 1 dL_law_723 rfl ?_
  refine ee_iload 5 dL_law_724 rfl ?_
  refine ee_iconst (v := (2 : Int32)) dL_law_726 (by decide) ?_
  refine ee_iadd dL_law_727 ?_
  refine ee_sld dL_law_728 (fun v728 _ => ?_)
  refine ee_bind (fun _ ho729 => ?_)
  refine ee_callV (as := [.int v722, .int v728]) (st := []) dL_law_729 (t_fD_pass l2 v722 v728 w711) my_fD_pass.1 (Nat.le_of_ble_eq_true rfl) my_fD_pass.2 rfl cf_10.1 rfl (p_obj_eq.mp ho729) gw_1471 gw_1472 gw_1473 ⟨Nat.le_of_ble_eq_true rfl, Nat.le_of_ble_eq_true rfl⟩ (Nat.le_of_ble_eq_true rfl) (fun rv729 w729 _ => ?_)
  refine ee_kI (fun v729 => ?_)
  refine ee_istore (lv2 := [(6, .int v729), (5, .int v711), (0, .retAddr 5), (1, .ref l1), (2, .ref l2), (3, .ref l3), (4, .int l4)]) dL_law_732 (Nat.le_of_ble_eq_true rfl) rfl ?_
  refine ee_aload_n 4 dL_law_734 rfl ?_
  refine ee_bind (fun _ ho735 => ?_)
  refine ee_callV (as := []) (st := []) dL_law_735 (t_fD_thrown l2 w729) my_fD_thrown.1 (Nat.le_of_ble_eq_true rfl) my_fD_thrown.2 rfl cf_10.1 rfl (p_obj_eq.mp ho735) gw_1307 gw_1308 gw_1309 ⟨Nat.le_of_ble_eq_true rfl, Nat.le_of_ble_eq_true rfl⟩ (Nat.le_of_ble_eq_true rfl) (fun rv735 w735 _ => ?_)
  refine ee_kI (fun v735 => ?_)
  refine ee_iload 1 dL_law_738 rfl ?_
  refine ee_icmp_eq (tgt := 745) dL_law_740 (by decide) (fun h740 => ?_) (fun h740 => ?_)
  · refine ee_iload 1 dL_law_745 rfl ?_
    refine ee_if_ne (tgt := 762) dL_law_747 (by decide) (fun h747 => ?_) (fun h747 => ?_)
    · refine ee_goto (tgt := 1222) dL_law_762 (by decide) ?_
      refine ee_iinc 6 dL_law_1222 rfl (e := (5 : Int32)) (by decide) (Nat.le_of_ble_eq_true rfl) (fun l4_1222 _ => ?_)
      refine ee_lv (lv2 := [(4, .int l4_1222), (6, .int v729), (5, .int v711), (0, .retAddr 5), (1, .ref l1), (2, .ref l2), (3, .ref l3)]) rfl ?_
      refine ee_goto (tgt := 43) dL_law_1225 (by decide) ?_
      refine ee_pick [3, 4, 5, 6, 0] rfl ?_
      exact hk_43 _ _ _ _ w735
    · refine ee_aload_n 5 dL_law_750 rfl ?_
      refine ee_iconst (v := (0 : Int32)) dL_law_751 (by decide) ?_
      refine ee_lald dL_law_752 (fun v752 _ => ?_)
      refine ee_iload 0 dL_law_753 rfl ?_
      refine ee_i2l dL_law_755 ?_
      refine ee_lcmp dL_law_756 ?_
      refine ee_if_eq (tgt := 762) dL_law_757 (by decide) (fun h757 => ?_) (fun h757 => ?_)
      · refine ee_goto (tgt := 1222) dL_law_762 (by decide) ?_
        refine ee_iinc 6 dL_law_1222 rfl (e := (5 : Int32)) (by decide) (Nat.le_of_ble_eq_true rfl) (fun l4_1222 _ => ?_)
        refine ee_lv (lv2 := [(4, .int l4_1222), (6, .int v729), (5, .int v711), (0, .retAddr 5), (1, .ref l1), (2, .ref l2), (3, .ref l3)]) rfl ?_
        refine ee_goto (tgt := 43) dL_law_1225 (by decide) ?_
        refine ee_pick [3, 4, 5, 6, 0] rfl ?_
        exact hk_43 _ _ _ _ w735
      · refine ee_iconst (v := (0 : Int32)) dL_law_760 (by decide) ?_
        exact ee_zret rfl dL_law_761
  · refine ee_iconst (v := (0 : Int32)) dL_law_743 (by decide) ?_
    exact ee_zret rfl dL_law_744
def fL_law_765 (S : Nat × (Nat → Int32)) (k_43 : Nat → Nat → Nat → Int32 → PW → PX) (l1 : Nat) (l2 : Nat) (l3 : Nat) (l4 : Int32) (w : PW) : PX := (p_sld S (l4 + (1 : Int32))).bind fun v771 => (p_sld S (l4 + (2 : Int32))).bind fun v777 => p_call (fL_alter l1 v771 v777 l3 w) <| p_kI fun v779 w779 => (p_sld S (l4 + (1 : Int32))).bind fun v790 => (p_sld S (l4 + (2 : Int32))).bind fun v796 => (p_obj w779 l2 10).bind fun _ => p_call (fD_alter l2 v790 v796 w779) <| p_kI fun v797 w797 => (p_obj w797 l2 10).bind fun _ => p_call (fD_thrown l2 w797) <| p_kI fun v803 w803 => if v803 = v779 then (if ¬ v779 = 0 then (p_let (l4 + (5 : Int32)) fun (l4_1222 : Int32) => k_43 l1 l2 l3 l4_1222 w803) else ((p_aldJ w803 l3 (0 : Int32)).bind fun v820 => if (lg_cmp v820 (Int32.toInt64 v797)) = 0 then (p_let (l4 + (5 : Int32)) fun (l4_1222 : Int32) => k_43 l1 l2 l3 l4_1222 w803) else (p_retZ (0 : Int32) w803))) else (p_retZ (0 : Int32) w803)
set_option maxRecDepth 20000 in
set_option maxHeartbeats 2000000 in
theorem t_fL_law_765 {Γ : PG} {k_43 : Nat → Nat → Nat → Int32 → PW → PX} (hk_43 : ∀ (l1 : Nat) (l2 : Nat) (l3 : Nat) (l4 : Int32) (w : PW), EE Γ ML_law 43 [(0, .retAddr 5), (1, .ref l1), (2, .ref l2), (3, .ref l3), (4, .int l4)] [] w (k_43 l1 l2 l3 l4 w)) : ∀ (l1 : Nat) (l2 : Nat) (l3 : Nat) (l4 : Int32) (w : PW), EE Γ ML_law 765 [(0, .retAddr 5), (1, .ref l1), (2, .ref l2), (3, .ref l3), (4, .int l4)] [] w (fL_law_765 (pg_S Γ) k_43 l1 l2 l3 l4 w) := by
  intro l1 l2 l3 l4 w
  unfold fL_law_765
  refine ee_aload_n 1 dL_law_765 rfl ?_
  refine ee_aload_nT 0 dL_law_766 rfl ?_
  refine ee_iload 4 dL_law_767 rfl ?_
  refine ee_iconst (v := (1 : Int32)) dL_law_769 (by decide) ?_
  refine ee_iadd dL_law_770 ?_
  refine ee_sld dL_law_771 (fun v771 _ => ?_)
  refine ee_aload_nT 0 dL_law_772 rfl ?_
  refine ee_iload 4 dL_law_773 rfl ?_
  refine ee_iconst (v := (2 : Int32)) dL_law_775 (by decide) ?_
  refine ee_iadd dL_law_776 ?_
  refine ee_sld dL_law_777 (fun v777 _ => ?_)
  refine ee_aload_n 3 dL_law_778 rfl ?_
  refine ee_callSW (as := [.ref l1, .int v771, .int v777, .ref l3]) (st := []) dL_law_779 (t_fL_alter l1 v771 v777 l3 w) ⟨by decide, rfl, by decide, by decide⟩ gw_1100 gw_52 (Nat.le_of_ble_eq_true rfl) my_fL_alter rfl gw_1098 gw_1099 ⟨Nat.le_of_ble_eq_true rfl, Nat.le_of_ble_eq_true rfl⟩ (Nat.le_of_ble_eq_true rfl) (fun rv779 w779 _ => ?_)
  refine ee_kI (fun v779 => ?_)
  refine ee_istore (lv2 := [(5, .int v779), (0, .retAddr 5), (1, .ref l1), (2, .ref l2), (3, .ref l3), (4, .int l4)]) dL_law_782 (Nat.le_of_ble_eq_true rfl) rfl ?_
  refine ee_aload_n 3 dL_law_784 rfl ?_
  refine ee_aload_nT 1 dL_law_785 rfl ?_
  refine ee_iload 5 dL_law_786 rfl ?_
  refine ee_iconst (v := (1 : Int32)) dL_law_788 (by decide) ?_
  refine ee_iadd dL_law_789 ?_
  refine ee_sld dL_law_790 (fun v790 _ => ?_)
  refine ee_aload_nT 1 dL_law_791 rfl ?_
  refine ee_iload 5 dL_law_792 rfl ?_
  refine ee_iconst (v := (2 : Int32)) dL_law_794 (by decide) ?_
  refine ee_iadd dL_law_795 ?_
  refine ee_sld dL_law_796 (fun v796 _ => ?_)
  refine ee_bind (fun _ ho797 => ?_)
  refine ee_callV (as := [.int v790, .int v796]) (st := []) dL_law_797 (t_fD_alter l2 v790 v796 w779) my_fD_alter.1 (Nat.le_of_ble_eq_true rfl) my_fD_alter.2 rfl cf_10.1 rfl (p_obj_eq.mp ho797) gw_1475 gw_1476 gw_1477 ⟨Nat.le_of_ble_eq_true rfl, Nat.le_of_ble_eq_true rfl⟩ (Nat.le_of_ble_eq_true rfl) (fun rv797 w797 _ => ?_)
  refine ee_kI (fun v797 => ?_)
  refine ee_istore (lv2 := [(6, .int v797), (5, .int v779), (0, .retAddr 5), (1, .ref l1), (2, .ref l2), (3, .ref l3), (4, .int l4)]) dL_law_800 (Nat.le_of_ble_eq_true rfl) rfl ?_
  refine ee_aload_n 4 dL_law_802 rfl ?_
  refine ee_bind (fun _ ho803 => ?_)
  refine ee_callV (as := []) (st := []) dL_law_803 (t_fD_thrown l2 w797) my_fD_thrown.1 (Nat.le_of_ble_eq_true rfl) my_fD_thrown.2 rfl cf_10.1 rfl (p_obj_eq.mp ho803) gw_1307 gw_1308 gw_1309 ⟨Nat.le_of_ble_eq_true rfl, Nat.le_of_ble_eq_true rfl⟩ (Nat.le_of_ble_eq_true rfl) (fun rv803 w803 _ => ?_)
  refine ee_kI (fun v803 => ?_)
  refine ee_iload 1 dL_law_806 rfl ?_
  refine ee_icmp_eq (tgt := 813) dL_law_808 (by decide) (fun h808 => ?_) (fun h808 => ?_)
  · refine ee_iload 1 dL_law_813 rfl ?_
    refine ee_if_ne (tgt := 830) dL_law_815 (by decide) (fun h815 => ?_) (fun h815 => ?_)
    · refine ee_goto (tgt := 1222) dL_law_830 (by decide) ?_
      refine ee_iinc 6 dL_law_1222 rfl (e := (5 : Int32)) (by decide) (Nat.le_of_ble_eq_true rfl) (fun l4_1222 _ => ?_)
      refine ee_lv (lv2 := [(4, .int l4_1222), (6, .int v797), (5, .int v779), (0, .retAddr 5), (1, .ref l1), (2, .ref l2), (3, .ref l3)]) rfl ?_
      refine ee_goto (tgt := 43) dL_law_1225 (by decide) ?_
      refine ee_pick [3, 4, 5, 6, 0] rfl ?_
      exact hk_43 _ _ _ _ w803
    · refine ee_aload_n 5 dL_law_818 rfl ?_
      refine ee_iconst (v := (0 : Int32)) dL_law_819 (by decide) ?_
      refine ee_lald dL_law_820 (fun v820 _ => ?_)
      refine ee_iload 0 dL_law_821 rfl ?_
      refine ee_i2l dL_law_823 ?_
      refine ee_lcmp dL_law_824 ?_
      refine ee_if_eq (tgt := 830) dL_law_825 (by decide) (fun h825 => ?_) (fun h825 => ?_)
      · refine ee_goto (tgt := 1222) dL_law_830 (by decide) ?_
        refine ee_iinc 6 dL_law_1222 rfl (e := (5 : Int32)) (by decide) (Nat.le_of_ble_eq_true rfl) (fun l4_1222 _ => ?_)
        refine ee_lv (lv2 := [(4, .int l4_1222), (6, .int v797), (5, .int v779), (0, .retAddr 5), (1, .ref l1), (2, .ref l2), (3, .ref l3)]) rfl ?_
        refine ee_goto (tgt := 43) dL_law_1225 (by decide) ?_
        refine ee_pick [3, 4, 5, 6, 0] rfl ?_
        exact hk_43 _ _ _ _ w803
      · refine ee_iconst (v := (0 : Int32)) dL_law_828 (by decide) ?_
        exact ee_zret rfl dL_law_829
  · refine ee_iconst (v := (0 : Int32)) dL_law_811 (by decide) ?_
    exact ee_zret rfl dL_law_812
def fL_law_833 (S : Nat × (Nat → Int32)) (k_43 : Nat → Nat → Nat → Int32 → PW → PX) (l1 : Nat) (l2 : Nat) (l3 : Nat) (l4 : Int32) (w : PW) : PX := (p_sld S (l4 + (1 : Int32))).bind fun v839 => p_call (fL_cut l1 v839 l3 w) <| p_kI fun v841 w841 => (p_sld S (l4 + (1 : Int32))).bind fun v852 => (p_obj w841 l2 10).bind fun _ => p_call (fD_cut l2 v852 w841) <| p_kI fun v853 w853 => (p_obj w853 l2 10).bind fun _ => p_call (fD_thrown l2 w853) <| p_kI fun v859 w859 => if v859 = v841 then (if ¬ v841 = 0 then (p_let (l4 + (5 : Int32)) fun (l4_1222 : Int32) => k_43 l1 l2 l3 l4_1222 w859) else ((p_aldJ w859 l3 (0 : Int32)).bind fun v876 => if (lg_cmp v876 (Int32.toInt64 v853)) = 0 then (p_let (l4 + (5 : Int32)) fun (l4_1222 : Int32) => k_43 l1 l2 l3 l4_1222 w859) else (p_retZ (0 : Int32) w859))) else (p_retZ (0 : Int32) w859)
set_option maxRecDepth 20000 in
set_option maxHeartbeats 2000000 in
theorem t_fL_law_833 {Γ : PG} {k_43 : Nat → Nat → Nat → Int32 → PW → PX} (hk_43 : ∀ (l1 : Nat) (l2 : Nat) (l3 : Nat) (l4 : Int32) (w : PW), EE Γ ML_law 43 [(0, .retAddr 5), (1, .ref l1), (2, .ref l2), (3, .ref l3), (4, .int l4)] [] w (k_43 l1 l2 l3 l4 w)) : ∀ (l1 : Nat) (l2 : Nat) (l3 : Nat) (l4 : Int32) (w : PW), EE Γ ML_law 833 [(0, .retAddr 5), (1, .ref l1), (2, .ref l2), (3, .ref l3), (4, .int l4)] [] w (fL_law_833 (pg_S Γ) k_43 l1 l2 l3 l4 w) := by
  intro l1 l2 l3 l4 w
  unfold fL_law_833
  refine ee_aload_n 1 dL_law_833 rfl ?_
  refine ee_aload_nT 0 dL_law_834 rfl ?_
  refine ee_iload 4 dL_law_835 rfl ?_
  refine ee_iconst (v := (1 : Int32)) dL_law_837 (by decide) ?_
  refine ee_iadd dL_law_838 ?_
  refine ee_sld dL_law_839 (fun v839 _ => ?_)
  refine ee_aload_n 3 dL_law_840 rfl ?_
  refine ee_callSW (as := [.ref l1, .int v839, .ref l3]) (st := []) dL_law_841 (t_fL_cut l1 v839 l3 w) ⟨by decide, rfl, by decide, by decide⟩ gw_1108 gw_52 (Nat.le_of_ble_eq_true rfl) my_fL_cut rfl gw_1106 gw_1107 ⟨Nat.le_of_ble_eq_true rfl, Nat.le_of_ble_eq_true rfl⟩ (Nat.le_of_ble_eq_true rfl) (fun rv841 w841 _ => ?_)
  refine ee_kI (fun v841 => ?_)
  refine ee_istore (lv2 := [(5, .int v841), (0, .retAddr 5), (1, .ref l1), (2, .ref l2), (3, .ref l3), (4, .int l4)]) dL_law_844 (Nat.le_of_ble_eq_true rfl) rfl ?_
  refine ee_aload_n 3 dL_law_846 rfl ?_
  refine ee_aload_nT 1 dL_law_847 rfl ?_
  refine ee_iload 5 dL_law_848 rfl ?_
  refine ee_iconst (v := (1 : Int32)) dL_law_850 (by decide) ?_
  refine ee_iadd dL_law_851 ?_
  refine ee_sld dL_law_852 (fun v852 _ => ?_)
  refine ee_bind (fun _ ho853 => ?_)
  refine ee_callV (as := [.int v852]) (st := []) dL_law_853 (t_fD_cut l2 v852 w841) my_fD_cut.1 (Nat.le_of_ble_eq_true rfl) my_fD_cut.2 rfl cf_10.1 rfl (p_obj_eq.mp ho853) gw_1479 gw_1480 gw_1481 ⟨Nat.le_of_ble_eq_true rfl, Nat.le_of_ble_eq_true rfl⟩ (Nat.le_of_ble_eq_true rfl) (fun rv853 w853 _ => ?_)
  refine ee_kI (fun v853 => ?_)
  refine ee_istore (lv2 := [(6, .int v853), (5, .int v841), (0, .retAddr 5), (1, .ref l1), (2, .ref l2), (3, .ref l3), (4, .int l4)]) dL_law_856 (Nat.le_of_ble_eq_true rfl) rfl ?_
  refine ee_aload_n 4 dL_law_858 rfl ?_
  refine ee_bind (fun _ ho859 => ?_)
  refine ee_callV (as := []) (st := []) dL_law_859 (t_fD_thrown l2 w853) my_fD_thrown.1 (Nat.le_of_ble_eq_true rfl) my_fD_thrown.2 rfl cf_10.1 rfl (p_obj_eq.mp ho859) gw_1307 gw_1308 gw_1309 ⟨Nat.le_of_ble_eq_true rfl, Nat.le_of_ble_eq_true rfl⟩ (Nat.le_of_ble_eq_true rfl) (fun rv859 w859 _ => ?_)
  refine ee_kI (fun v859 => ?_)
  refine ee_iload 1 dL_law_862 rfl ?_
  refine ee_icmp_eq (tgt := 869) dL_law_864 (by decide) (fun h864 => ?_) (fun h864 => ?_)
  · refine ee_iload 1 dL_law_869 rfl ?_
    refine ee_if_ne (tgt := 886) dL_law_871 (by decide) (fun h871 => ?_) (fun h871 => ?_)
    · refine ee_goto (tgt := 1222) dL_law_886 (by decide) ?_
      refine ee_iinc 6 dL_law_1222 rfl (e := (5 : Int32)) (by decide) (Nat.le_of_ble_eq_true rfl) (fun l4_1222 _ => ?_)
      refine ee_lv (lv2 := [(4, .int l4_1222), (6, .int v853), (5, .int v841), (0, .retAddr 5), (1, .ref l1), (2, .ref l2), (3, .ref l3)]) rfl ?_
      refine ee_goto (tgt := 43) dL_law_1225 (by decide) ?_
      refine ee_pick [3, 4, 5, 6, 0] rfl ?_
      exact hk_43 _ _ _ _ w859
    · refine ee_aload_n 5 dL_law_874 rfl ?_
      refine ee_iconst (v := (0 : Int32)) dL_law_875 (by decide) ?_
      refine ee_lald dL_law_876 (fun v876 _ => ?_)
      refine ee_iload 0 dL_law_877 rfl ?_
      refine ee_i2l dL_law_879 ?_
      refine ee_lcmp dL_law_880 ?_
      refine ee_if_eq (tgt := 886) dL_law_881 (by decide) (fun h881 => ?_) (fun h881 => ?_)
      · refine ee_goto (tgt := 1222) dL_law_886 (by decide) ?_
        refine ee_iinc 6 dL_law_1222 rfl (e := (5 : Int32)) (by decide) (Nat.le_of_ble_eq_true rfl) (fun l4_1222 _ => ?_)
        refine ee_lv (lv2 := [(4, .int l4_1222), (6, .int v853), (5, .int v841), (0, .retAddr 5), (1, .ref l1), (2, .ref l2), (3, .ref l3)]) rfl ?_
        refine ee_goto (tgt := 43) dL_law_1225 (by decide) ?_
        refine ee_pick [3, 4, 5, 6, 0] rfl ?_
        exact hk_43 _ _ _ _ w859
      · refine ee_iconst (v := (0 : Int32)) dL_law_884 (by decide) ?_
        exact ee_zret rfl dL_law_885
  · refine ee_iconst (v := (0 : Int32)) dL_law_867 (by decide) ?_
    exact ee_zret rfl dL_law_868
def fL_law_889 (S : Nat × (Nat → Int32)) (k_43 : Nat → Nat → Nat → Int32 → PW → PX) (l1 : Nat) (l2 : Nat) (l3 : Nat) (l4 : Int32) (w : PW) : PX := (p_obj w l1 0).bind fun _ => p_call (fW_read l1 w) <| p_kI fun v890 w890 => (p_obj w890 l2 10).bind fun _ => p_call (fD_read l2 w890) <| p_kI fun v894 w894 => if v890 = v894 then (p_let (l4 + (5 : Int32)) fun (l4_1222 : Int32) => k_43 l1 l2 l3 l4_1222 w894) else (p_retZ (0 : Int32) w894)
set_option maxRecDepth 20000 in
set_option maxHeartbeats 2000000 in
theorem t_fL_law_889 {Γ : PG} {k_43 : Nat → Nat → Nat → Int32 → PW → PX} (hk_43 : ∀ (l1 : Nat) (l2 : Nat) (l3 : Nat) (l4 : Int32) (w : PW), EE Γ ML_law 43 [(0, .retAddr 5), (1, .ref l1), (2, .ref l2), (3, .ref l3), (4, .int l4)] [] w (k_43 l1 l2 l3 l4 w)) : ∀ (l1 : Nat) (l2 : Nat) (l3 : Nat) (l4 : Int32) (w : PW), EE Γ ML_law 889 [(0, .retAddr 5), (1, .ref l1), (2, .ref l2), (3, .ref l3), (4, .int l4)] [] w (fL_law_889 (pg_S Γ) k_43 l1 l2 l3 l4 w) := by
  intro l1 l2 l3 l4 w
  unfold fL_law_889
  refine ee_aload_n 1 dL_law_889 rfl ?_
  refine ee_bind (fun _ ho890 => ?_)
  refine ee_callV (as := []) (st := []) dL_law_890 (t_fW_read l1 w) my_fW_read.1 (Nat.le_of_ble_eq_true rfl) my_fW_read.2 rfl cf_0.1 rfl (p_obj_eq.mp ho890) gw_506 gw_507 gw_508 ⟨Nat.le_of_ble_eq_true rfl, Nat.le_of_ble_eq_true rfl⟩ (Nat.le_of_ble_eq_true rfl) (fun rv890 w890 _ => ?_)
  refine ee_kI (fun v890 => ?_)
  refine ee_aload_n 2 dL_law_893 rfl ?_
  refine ee_bind (fun _ ho894 => ?_)
  refine ee_callV (as := []) (st := [.int v890]) dL_law_894 (t_fD_read l2 w890) my_fD_read.1 (Nat.le_of_ble_eq_true rfl) my_fD_read.2 rfl cf_10.1 rfl (p_obj_eq.mp ho894) gw_1483 gw_1484 gw_1485 ⟨Nat.le_of_ble_eq_true rfl, Nat.le_of_ble_eq_true rfl⟩ (Nat.le_of_ble_eq_true rfl) (fun rv894 w894 _ => ?_)
  refine ee_kI (fun v894 => ?_)
  refine ee_icmp_eq (tgt := 1222) dL_law_897 (by decide) (fun h897 => ?_) (fun h897 => ?_)
  · refine ee_iinc 4 dL_law_1222 rfl (e := (5 : Int32)) (by decide) (Nat.le_of_ble_eq_true rfl) (fun l4_1222 _ => ?_)
    refine ee_lv (lv2 := [(4, .int l4_1222), (0, .retAddr 5), (1, .ref l1), (2, .ref l2), (3, .ref l3)]) rfl ?_
    refine ee_goto (tgt := 43) dL_law_1225 (by decide) ?_
    refine ee_pick [1, 2, 3, 4, 0] rfl ?_
    exact hk_43 _ _ _ _ w894
  · refine ee_iconst (v := (0 : Int32)) dL_law_900 (by decide) ?_
    exact ee_zret rfl dL_law_901
def fL_law_902 (S : Nat × (Nat → Int32)) (k_43 : Nat → Nat → Nat → Int32 → PW → PX) (l1 : Nat) (l2 : Nat) (l3 : Nat) (l4 : Int32) (w : PW) : PX := (p_sld S (l4 + (1 : Int32))).bind fun v908 => (p_sld S (l4 + (2 : Int32))).bind fun v914 => (p_sld S (l4 + (3 : Int32))).bind fun v920 => p_call (fL_at l1 v908 v914 v920 l3 w) <| p_kI fun v922 w922 => (p_sld S (l4 + (1 : Int32))).bind fun v933 => (p_sld S (l4 + (2 : Int32))).bind fun v939 => (p_sld S (l4 + (3 : Int32))).bind fun v945 => (p_obj w922 l2 10).bind fun _ => p_call (fD_at l2 v933 v939 v945 w922) <| p_kI fun v946 w946 => (p_obj w946 l2 10).bind fun _ => p_call (fD_thrown l2 w946) <| p_kI fun v952 w952 => if v952 = v922 then (if ¬ v922 = 0 then (p_let (l4 + (5 : Int32)) fun (l4_1222 : Int32) => k_43 l1 l2 l3 l4_1222 w952) else ((p_aldJ w952 l3 (0 : Int32)).bind fun v969 => if (lg_cmp v969 (Int32.toInt64 v946)) = 0 then (p_let (l4 + (5 : Int32)) fun (l4_1222 : Int32) => k_43 l1 l2 l3 l4_1222 w952) else (p_retZ (0 : Int32) w952))) else (p_retZ (0 : Int32) w952)
set_option maxRecDepth 20000 in
set_option maxHeartbeats 2000000 in
theorem t_fL_law_902 {Γ : PG} {k_43 : Nat → Nat → Nat → Int32 → PW → PX} (hk_43 : ∀ (l1 : Nat) (l2 : Nat) (l3 : Nat) (l4 : Int32) (w : PW), EE Γ ML_law 43 [(0, .retAddr 5), (1, .ref l1), (2, .ref l2), (3, .ref l3), (4, .int l4)] [] w (k_43 l1 l2 l3 l4 w)) : ∀ (l1 : Nat) (l2 : Nat) (l3 : Nat) (l4 : Int32) (w : PW), EE Γ ML_law 902 [(0, .retAddr 5), (1, .ref l1), (2, .ref l2), (3, .ref l3), (4, .int l4)] [] w (fL_law_902 (pg_S Γ) k_43 l1 l2 l3 l4 w) := by
  intro l1 l2 l3 l4 w
  unfold fL_law_902
  refine ee_aload_n 1 dL_law_902 rfl ?_
  refine ee_aload_nT 0 dL_law_903 rfl ?_
  refine ee_iload 4 dL_law_904 rfl ?_
  refine ee_iconst (v := (1 : Int32)) dL_law_906 (by decide) ?_
  refine ee_iadd dL_law_907 ?_
  refine ee_sld dL_law_908 (fun v908 _ => ?_)
  refine ee_aload_nT 0 dL_law_909 rfl ?_
  refine ee_iload 4 dL_law_910 rfl ?_
  refine ee_iconst (v := (2 : Int32)) dL_law_912 (by decide) ?_
  refine ee_iadd dL_law_913 ?_
  refine ee_sld dL_law_914 (fun v914 _ => ?_)
  refine ee_aload_nT 0 dL_law_915 rfl ?_
  refine ee_iload 4 dL_law_916 rfl ?_
  refine ee_iconst (v := (3 : Int32)) dL_law_918 (by decide) ?_
  refine ee_iadd dL_law_919 ?_
  refine ee_sld dL_law_920 (fun v920 _ => ?_)
  refine ee_aload_n 3 dL_law_921 rfl ?_
  refine ee_callSW (as := [.ref l1, .int v908, .int v914, .int v920, .ref l3]) (st := []) dL_law_922 (t_fL_at l1 v908 v914 v920 l3 w) ⟨by decide, rfl, by decide, by decide⟩ gw_1115 gw_52 (Nat.le_of_ble_eq_true rfl) my_fL_at rfl gw_1113 gw_1114 ⟨Nat.le_of_ble_eq_true rfl, Nat.le_of_ble_eq_true rfl⟩ (Nat.le_of_ble_eq_true rfl) (fun rv922 w922 _ => ?_)
  refine ee_kI (fun v922 => ?_)
  refine ee_istore (lv2 := [(5, .int v922), (0, .retAddr 5), (1, .ref l1), (2, .ref l2), (3, .ref l3), (4, .int l4)]) dL_law_925 (Nat.le_of_ble_eq_true rfl) rfl ?_
  refine ee_aload_n 3 dL_law_927 rfl ?_
  refine ee_aload_nT 1 dL_law_928 rfl ?_
  refine ee_iload 5 dL_law_929 rfl ?_
  refine ee_iconst (v := (1 : Int32)) dL_law_931 (by decide) ?_
  refine ee_iadd dL_law_932 ?_
  refine ee_sld dL_law_933 (fun v933 _ => ?_)
  refine ee_aload_nT 1 dL_law_934 rfl ?_
  refine ee_iload 5 dL_law_935 rfl ?_
  refine ee_iconst (v := (2 : Int32)) dL_law_937 (by decide) ?_
  refine ee_iadd dL_law_938 ?_
  refine ee_sld dL_law_939 (fun v939 _ => ?_)
  refine ee_aload_nT 1 dL_law_940 rfl ?_
  refine ee_iload 5 dL_law_941 rfl ?_
  refine ee_iconst (v := (3 : Int32)) dL_law_943 (by decide) ?_
  refine ee_iadd dL_law_944 ?_
  refine ee_sld dL_law_945 (fun v945 _ => ?_)
  refine ee_bind (fun _ ho946 => ?_)
  refine ee_callV (as := [.int v933, .int v939, .int v945]) (st := []) dL_law_946 (t_fD_at l2 v933 v939 v945 w922) my_fD_at.1 (Nat.le_of_ble_eq_true rfl) my_fD_at.2 rfl cf_10.1 rfl (p_obj_eq.mp ho946) gw_1586 gw_1587 gw_1588 ⟨Nat.le_of_ble_eq_true rfl, Nat.le_of_ble_eq_true rfl⟩ (Nat.le_of_ble_eq_true rfl) (fun rv946 w946 _ => ?_)
  refine ee_kI (fun v946 => ?_)
  refine ee_istore (lv2 := [(6, .int v946), (5, .int v922), (0, .retAddr 5), (1, .ref l1), (2, .ref l2), (3, .ref l3), (4, .int l4)]) dL_law_949 (Nat.le_of_ble_eq_true rfl) rfl ?_
  refine ee_aload_n 4 dL_law_951 rfl ?_
  refine ee_bind (fun _ ho952 => ?_)
  refine ee_callV (as := []) (st := []) dL_law_952 (t_fD_thrown l2 w946) my_fD_thrown.1 (Nat.le_of_ble_eq_true rfl) my_fD_thrown.2 rfl cf_10.1 rfl (p_obj_eq.mp ho952) gw_1307 gw_1308 gw_1309 ⟨Nat.le_of_ble_eq_true rfl, Nat.le_of_ble_eq_true rfl⟩ (Nat.le_of_ble_eq_true rfl) (fun rv952 w952 _ => ?_)
  refine ee_kI (fun v952 => ?_)
  refine ee_iload 1 dL_law_955 rfl ?_
  refine ee_icmp_eq (tgt := 962) dL_law_957 (by decide) (fun h957 => ?_) (fun h957 => ?_)
  · refine ee_iload 1 dL_law_962 rfl ?_
    refine ee_if_ne (tgt := 979) dL_law_964 (by decide) (fun h964 => ?_) (fun h964 => ?_)
    · refine ee_goto (tgt := 1222) dL_law_979 (by decide) ?_
      refine ee_iinc 6 dL_law_1222 rfl (e := (5 : Int32)) (by decide) (Nat.le_of_ble_eq_true rfl) (fun l4_1222 _ => ?_)
      refine ee_lv (lv2 := [(4, .int l4_1222), (6, .int v946), (5, .int v922), (0, .retAddr 5), (1, .ref l1), (2, .ref l2), (3, .ref l3)]) rfl ?_
      refine ee_goto (tgt := 43) dL_law_1225 (by decide) ?_
      refine ee_pick [3, 4, 5, 6, 0] rfl ?_
      exact hk_43 _ _ _ _ w952
    · refine ee_aload_n 5 dL_law_967 rfl ?_
      refine ee_iconst (v := (0 : Int32)) dL_law_968 (by decide) ?_
      refine ee_lald dL_law_969 (fun v969 _ => ?_)
      refine ee_iload 0 dL_law_970 rfl ?_
      refine ee_i2l dL_law_972 ?_
      refine ee_lcmp dL_law_973 ?_
      refine ee_if_eq (tgt := 979) dL_law_974 (by decide) (fun h974 => ?_) (fun h974 => ?_)
      · refine ee_goto (tgt := 1222) dL_law_979 (by decide) ?_
        refine ee_iinc 6 dL_law_1222 rfl (e := (5 : Int32)) (by decide) (Nat.le_of_ble_eq_true rfl) (fun l4_1222 _ => ?_)
        refine ee_lv (lv2 := [(4, .int l4_1222), (6, .int v946), (5, .int v922), (0, .retAddr 5), (1, .ref l1), (2, .ref l2), (3, .ref l3)]) rfl ?_
        refine ee_goto (tgt := 43) dL_law_1225 (by decide) ?_
        refine ee_pick [3, 4, 5, 6, 0] rfl ?_
        exact hk_43 _ _ _ _ w952
      · refine ee_iconst (v := (0 : Int32)) dL_law_977 (by decide) ?_
        exact ee_zret rfl dL_law_978
  · refine ee_iconst (v := (0 : Int32)) dL_law_960 (by decide) ?_
    exact ee_zret rfl dL_law_961
def fL_law_982 (S : Nat × (Nat → Int32)) (k_43 : Nat → Nat → Nat → Int32 → PW → PX) (l1 : Nat) (l2 : Nat) (l3 : Nat) (l4 : Int32) (w : PW) : PX := (p_sld S (l4 + (1 : Int32))).bind fun v988 => (p_sld S (l4 + (2 : Int32))).bind fun v994 => p_call (fL_part l1 v988 v994 l3 w) <| p_kI fun v996 w996 => (p_sld S (l4 + (1 : Int32))).bind fun v1007 => (p_sld S (l4 + (2 : Int32))).bind fun v1013 => (p_obj w996 l2 10).bind fun _ => p_call (fD_part l2 v1007 v1013 w996) <| p_kI fun v1014 w1014 => (p_obj w1014 l2 10).bind fun _ => p_call (fD_thrown l2 w1014) <| p_kI fun v1020 w1020 => if v1020 = v996 then (if ¬ v996 = 0 then (p_let (l4 + (5 : Int32)) fun (l4_1222 : Int32) => k_43 l1 l2 l3 l4_1222 w1020) else ((p_aldJ w1020 l3 (0 : Int32)).bind fun v1037 => if (lg_cmp v1037 (Int32.toInt64 v1014)) = 0 then (p_let (l4 + (5 : Int32)) fun (l4_1222 : Int32) => k_43 l1 l2 l3 l4_1222 w1020) else (p_retZ (0 : Int32) w1020))) else (p_retZ (0 : Int32) w1020)
set_option maxRecDepth 20000 in
set_option maxHeartbeats 2000000 in
theorem t_fL_law_982 {Γ : PG} {k_43 : Nat → Nat → Nat → Int32 → PW → PX} (hk_43 : ∀ (l1 : Nat) (l2 : Nat) (l3 : Nat) (l4 : Int32) (w : PW), EE Γ ML_law 43 [(0, .retAddr 5), (1, .ref l1), (2, .ref l2), (3, .ref l3), (4, .int l4)] [] w (k_43 l1 l2 l3 l4 w)) : ∀ (l1 : Nat) (l2 : Nat) (l3 : Nat) (l4 : Int32) (w : PW), EE Γ ML_law 982 [(0, .retAddr 5), (1, .ref l1), (2, .ref l2), (3, .ref l3), (4, .int l4)] [] w (fL_law_982 (pg_S Γ) k_43 l1 l2 l3 l4 w) := by
  intro l1 l2 l3 l4 w
  unfold fL_law_982
  refine ee_aload_n 1 dL_law_982 rfl ?_
  refine ee_aload_nT 0 dL_law_983 rfl ?_
  refine ee_iload 4 dL_law_984 rfl ?_
  refine ee_iconst (v := (1 : Int32)) dL_law_986 (by decide) ?_
  refine ee_iadd dL_law_987 ?_
  refine ee_sld dL_law_988 (fun v988 _ => ?_)
  refine ee_aload_nT 0 dL_law_989 rfl ?_
  refine ee_iload 4 dL_law_990 rfl ?_
  refine ee_iconst (v := (2 : Int32)) dL_law_992 (by decide) ?_
  refine ee_iadd dL_law_993 ?_
  refine ee_sld dL_law_994 (fun v994 _ => ?_)
  refine ee_aload_n 3 dL_law_995 rfl ?_
  refine ee_callSW (as := [.ref l1, .int v988, .int v994, .ref l3]) (st := []) dL_law_996 (t_fL_part l1 v988 v994 l3 w) ⟨by decide, rfl, by decide, by decide⟩ gw_1127 gw_52 (Nat.le_of_ble_eq_true rfl) my_fL_part rfl gw_1125 gw_1126 ⟨Nat.le_of_ble_eq_true rfl, Nat.le_of_ble_eq_true rfl⟩ (Nat.le_of_ble_eq_true rfl) (fun rv996 w996 _ => ?_)
  refine ee_kI (fun v996 => ?_)
  refine ee_istore (lv2 := [(5, .int v996), (0, .retAddr 5), (1, .ref l1), (2, .ref l2), (3, .ref l3), (4, .int l4)]) dL_law_999 (Nat.le_of_ble_eq_true rfl) rfl ?_
  refine ee_aload_n 3 dL_law_1001 rfl ?_
  refine ee_aload_nT 1 dL_law_1002 rfl ?_
  refine ee_iload 5 dL_law_1003 rfl ?_
  refine ee_iconst (v := (1 : Int32)) dL_law_1005 (by decide) ?_
  refine ee_iadd dL_law_1006 ?_
  refine ee_sld dL_law_1007 (fun v1007 _ => ?_)
  refine ee_aload_nT 1 dL_law_1008 rfl ?_
  refine ee_iload 5 dL_law_1009 rfl ?_
  refine ee_iconst (v := (2 : Int32)) dL_law_1011 (by decide) ?_
  refine ee_iadd dL_law_1012 ?_
  refine ee_sld dL_law_1013 (fun v1013 _ => ?_)
  refine ee_bind (fun _ ho1014 => ?_)
  refine ee_callV (as := [.int v1007, .int v1013]) (st := []) dL_law_1014 (t_fD_part l2 v1007 v1013 w996) my_fD_part.1 (Nat.le_of_ble_eq_true rfl) my_fD_part.2 rfl cf_10.1 rfl (p_obj_eq.mp ho1014) gw_1591 gw_1592 gw_1593 ⟨Nat.le_of_ble_eq_true rfl, Nat.le_of_ble_eq_true rfl⟩ (Nat.le_of_ble_eq_true rfl) (fun rv1014 w1014 _ => ?_)
  refine ee_kI (fun v1014 => ?_)
  refine ee_istore (lv2 := [(6, .int v1014), (5, .int v996), (0, .retAddr 5), (1, .ref l1), (2, .ref l2), (3, .ref l3), (4, .int l4)]) dL_law_1017 (Nat.le_of_ble_eq_true rfl) rfl ?_
  refine ee_aload_n 4 dL_law_1019 rfl ?_
  refine ee_bind (fun _ ho1020 => ?_)
  refine ee_callV (as := []) (st := []) dL_law_1020 (t_fD_thrown l2 w1014) my_fD_thrown.1 (Nat.le_of_ble_eq_true rfl) my_fD_thrown.2 rfl cf_10.1 rfl (p_obj_eq.mp ho1020) gw_1307 gw_1308 gw_1309 ⟨Nat.le_of_ble_eq_true rfl, Nat.le_of_ble_eq_true rfl⟩ (Nat.le_of_ble_eq_true rfl) (fun rv1020 w1020 _ => ?_)
  refine ee_kI (fun v1020 => ?_)
  refine ee_iload 1 dL_law_1023 rfl ?_
  refine ee_icmp_eq (tgt := 1030) dL_law_1025 (by decide) (fun h1025 => ?_) (fun h1025 => ?_)
  · refine ee_iload 1 dL_law_1030 rfl ?_
    refine ee_if_ne (tgt := 1047) dL_law_1032 (by decide) (fun h1032 => ?_) (fun h1032 => ?_)
    · refine ee_goto (tgt := 1222) dL_law_1047 (by decide) ?_
      refine ee_iinc 6 dL_law_1222 rfl (e := (5 : Int32)) (by decide) (Nat.le_of_ble_eq_true rfl) (fun l4_1222 _ => ?_)
      refine ee_lv (lv2 := [(4, .int l4_1222), (6, .int v1014), (5, .int v996), (0, .retAddr 5), (1, .ref l1), (2, .ref l2), (3, .ref l3)]) rfl ?_
      refine ee_goto (tgt := 43) dL_law_1225 (by decide) ?_
      refine ee_pick [3, 4, 5, 6, 0] rfl ?_
      exact hk_43 _ _ _ _ w1020
    · refine ee_aload_n 5 dL_law_1035 rfl ?_
      refine ee_iconst (v := (0 : Int32)) dL_law_1036 (by decide) ?_
      refine ee_lald dL_law_1037 (fun v1037 _ => ?_)
      refine ee_iload 0 dL_law_1038 rfl ?_
      refine ee_i2l dL_law_1040 ?_
      refine ee_lcmp dL_law_1041 ?_
      refine ee_if_eq (tgt := 1047) dL_law_1042 (by decide) (fun h1042 => ?_) (fun h1042 => ?_)
      · refine ee_goto (tgt := 1222) dL_law_1047 (by decide) ?_
        refine ee_iinc 6 dL_law_1222 rfl (e := (5 : Int32)) (by decide) (Nat.le_of_ble_eq_true rfl) (fun l4_1222 _ => ?_)
        refine ee_lv (lv2 := [(4, .int l4_1222), (6, .int v1014), (5, .int v996), (0, .retAddr 5), (1, .ref l1), (2, .ref l2), (3, .ref l3)]) rfl ?_
        refine ee_goto (tgt := 43) dL_law_1225 (by decide) ?_
        refine ee_pick [3, 4, 5, 6, 0] rfl ?_
        exact hk_43 _ _ _ _ w1020
      · refine ee_iconst (v := (0 : Int32)) dL_law_1045 (by decide) ?_
        exact ee_zret rfl dL_law_1046
  · refine ee_iconst (v := (0 : Int32)) dL_law_1028 (by decide) ?_
    exact ee_zret rfl dL_law_1029
def fL_law_1050 (S : Nat × (Nat → Int32)) (k_43 : Nat → Nat → Nat → Int32 → PW → PX) (l1 : Nat) (l2 : Nat) (l3 : Nat) (l4 : Int32) (w : PW) : PX := (p_sld S (l4 + (1 : Int32))).bind fun v1056 => (p_sld S (l4 + (2 : Int32))).bind fun v1062 => p_call (fL_partByte l1 v1056 v1062 l3 w) <| p_kI fun v1064 w1064 => (p_sld S (l4 + (1 : Int32))).bind fun v1075 => (p_sld S (l4 + (2 : Int32))).bind fun v1081 => (p_obj w1064 l2 10).bind fun _ => p_call (fD_partByte l2 v1075 v1081 w1064) <| p_kI fun v1082 w1082 => (p_obj w1082 l2 10).bind fun _ => p_call (fD_thrown l2 w1082) <| p_kI fun v1088 w1088 => if v1088 = v1064 then (if ¬ v1064 = 0 then (p_let (l4 + (5 : Int32)) fun (l4_1222 : Int32) => k_43 l1 l2 l3 l4_1222 w1088) else ((p_aldJ w1088 l3 (0 : Int32)).bind fun v1105 => if (lg_cmp v1105 (Int32.toInt64 v1082)) = 0 then (p_let (l4 + (5 : Int32)) fun (l4_1222 : Int32) => k_43 l1 l2 l3 l4_1222 w1088) else (p_retZ (0 : Int32) w1088))) else (p_retZ (0 : Int32) w1088)
set_option maxRecDepth 20000 in
set_option maxHeartbeats 2000000 in
theorem t_fL_law_1050 {Γ : PG} {k_43 : Nat → Nat → Nat → Int32 → PW → PX} (hk_43 : ∀ (l1 : Nat) (l2 : Nat) (l3 : Nat) (l4 : Int32) (w : PW), EE Γ ML_law 43 [(0, .retAddr 5), (1, .ref l1), (2, .ref l2), (3, .ref l3), (4, .int l4)] [] w (k_43 l1 l2 l3 l4 w)) : ∀ (l1 : Nat) (l2 : Nat) (l3 : Nat) (l4 : Int32) (w : PW), EE Γ ML_law 1050 [(0, .retAddr 5), (1, .ref l1), (2, .ref l2), (3, .ref l3), (4, .int l4)] [] w (fL_law_1050 (pg_S Γ) k_43 l1 l2 l3 l4 w) := by
  intro l1 l2 l3 l4 w
  unfold fL_law_1050
  refine ee_aload_n 1 dL_law_1050 rfl ?_
  refine ee_aload_nT 0 dL_law_1051 rfl ?_
  refine ee_iload 4 dL_law_1052 rfl ?_
  refine ee_iconst (v := (1 : Int32)) dL_law_1054 (by decide) ?_
  refine ee_iadd dL_law_1055 ?_
  refine ee_sld dL_law_1056 (fun v1056 _ => ?_)
  refine ee_aload_nT 0 dL_law_1057 rfl ?_
  refine ee_iload 4 dL_law_1058 rfl ?_
  refine ee_iconst (v := (2 : Int32)) dL_law_1060 (by decide) ?_
  refine ee_iadd dL_law_1061 ?_
  refine ee_sld dL_law_1062 (fun v1062 _ => ?_)
  refine ee_aload_n 3 dL_law_1063 rfl ?_
  refine ee_callSW (as := [.ref l1, .int v1056, .int v1062, .ref l3]) (st := []) dL_law_1064 (t_fL_partByte l1 v1056 v1062 l3 w) ⟨by decide, rfl, by decide, by decide⟩ gw_1135 gw_52 (Nat.le_of_ble_eq_true rfl) my_fL_partByte rfl gw_1133 gw_1134 ⟨Nat.le_of_ble_eq_true rfl, Nat.le_of_ble_eq_true rfl⟩ (Nat.le_of_ble_eq_true rfl) (fun rv1064 w1064 _ => ?_)
  refine ee_kI (fun v1064 => ?_)
  refine ee_istore (lv2 := [(5, .int v1064), (0, .retAddr 5), (1, .ref l1), (2, .ref l2), (3, .ref l3), (4, .int l4)]) dL_law_1067 (Nat.le_of_ble_eq_true rfl) rfl ?_
  refine ee_aload_n 3 dL_law_1069 rfl ?_
  refine ee_aload_nT 1 dL_law_1070 rfl ?_
  refine ee_iload 5 dL_law_1071 rfl ?_
  refine ee_iconst (v := (1 : Int32)) dL_law_1073 (by decide) ?_
  refine ee_iadd dL_law_1074 ?_
  refine ee_sld dL_law_1075 (fun v1075 _ => ?_)
  refine ee_aload_nT 1 dL_law_1076 rfl ?_
  refine ee_iload 5 dL_law_1077 rfl ?_
  refine ee_iconst (v := (2 : Int32)) dL_law_1079 (by decide) ?_
  refine ee_iadd dL_law_1080 ?_
  refine ee_sld dL_law_1081 (fun v1081 _ => ?_)
  refine ee_bind (fun _ ho1082 => ?_)
  refine ee_callV (as := [.int v1075, .int v1081]) (st := []) dL_law_1082 (t_fD_partByte l2 v1075 v1081 w1064) my_fD_partByte.1 (Nat.le_of_ble_eq_true rfl) my_fD_partByte.2 rfl cf_10.1 rfl (p_obj_eq.mp ho1082) gw_1595 gw_1596 gw_1597 ⟨Nat.le_of_ble_eq_true rfl, Nat.le_of_ble_eq_true rfl⟩ (Nat.le_of_ble_eq_true rfl) (fun rv1082 w1082 _ => ?_)
  refine ee_kI (fun v1082 => ?_)
  refine ee_istore (lv2 := [(6, .int v1082), (5, .int v1064), (0, .retAddr 5), (1, .ref l1), (2, .ref l2), (3, .ref l3), (4, .int l4)]) dL_law_1085 (Nat.le_of_ble_eq_true rfl) rfl ?_
  refine ee_aload_n 4 dL_law_1087 rfl ?_
  refine ee_bind (fun _ ho1088 => ?_)
  refine ee_callV (as := []) (st := []) dL_law_1088 (t_fD_thrown l2 w1082) my_fD_thrown.1 (Nat.le_of_ble_eq_true rfl) my_fD_thrown.2 rfl cf_10.1 rfl (p_obj_eq.mp ho1088) gw_1307 gw_1308 gw_1309 ⟨Nat.le_of_ble_eq_true rfl, Nat.le_of_ble_eq_true rfl⟩ (Nat.le_of_ble_eq_true rfl) (fun rv1088 w1088 _ => ?_)
  refine ee_kI (fun v1088 => ?_)
  refine ee_iload 1 dL_law_1091 rfl ?_
  refine ee_icmp_eq (tgt := 1098) dL_law_1093 (by decide) (fun h1093 => ?_) (fun h1093 => ?_)
  · refine ee_iload 1 dL_law_1098 rfl ?_
    refine ee_if_ne (tgt := 1115) dL_law_1100 (by decide) (fun h1100 => ?_) (fun h1100 => ?_)
    · refine ee_goto (tgt := 1222) dL_law_1115 (by decide) ?_
      refine ee_iinc 6 dL_law_1222 rfl (e := (5 : Int32)) (by decide) (Nat.le_of_ble_eq_true rfl) (fun l4_1222 _ => ?_)
      refine ee_lv (lv2 := [(4, .int l4_1222), (6, .int v1082), (5, .int v1064), (0, .retAddr 5), (1, .ref l1), (2, .ref l2), (3, .ref l3)]) rfl ?_
      refine ee_goto (tgt := 43) dL_law_1225 (by decide) ?_
      refine ee_pick [3, 4, 5, 6, 0] rfl ?_
      exact hk_43 _ _ _ _ w1088
    · refine ee_aload_n 5 dL_law_1103 rfl ?_
      refine ee_iconst (v := (0 : Int32)) dL_law_1104 (by decide) ?_
      refine ee_lald dL_law_1105 (fun v1105 _ => ?_)
      refine ee_iload 0 dL_law_1106 rfl ?_
      refine ee_i2l dL_law_1108 ?_
      refine ee_lcmp dL_law_1109 ?_
      refine ee_if_eq (tgt := 1115) dL_law_1110 (by decide) (fun h1110 => ?_) (fun h1110 => ?_)
      · refine ee_goto (tgt := 1222) dL_law_1115 (by decide) ?_
        refine ee_iinc 6 dL_law_1222 rfl (e := (5 : Int32)) (by decide) (Nat.le_of_ble_eq_true rfl) (fun l4_1222 _ => ?_)
        refine ee_lv (lv2 := [(4, .int l4_1222), (6, .int v1082), (5, .int v1064), (0, .retAddr 5), (1, .ref l1), (2, .ref l2), (3, .ref l3)]) rfl ?_
        refine ee_goto (tgt := 43) dL_law_1225 (by decide) ?_
        refine ee_pick [3, 4, 5, 6, 0] rfl ?_
        exact hk_43 _ _ _ _ w1088
      · refine ee_iconst (v := (0 : Int32)) dL_law_1113 (by decide) ?_
        exact ee_zret rfl dL_law_1114
  · refine ee_iconst (v := (0 : Int32)) dL_law_1096 (by decide) ?_
    exact ee_zret rfl dL_law_1097
def fL_law_1118 (S : Nat × (Nat → Int32)) (k_43 : Nat → Nat → Nat → Int32 → PW → PX) (l1 : Nat) (l2 : Nat) (l3 : Nat) (l4 : Int32) (w : PW) : PX := (p_sld S (l4 + (1 : Int32))).bind fun v1124 => (p_sld S (l4 + (2 : Int32))).bind fun v1130 => p_call (fL_unknown l1 v1124 v1130 l3 w) <| p_kI fun v1132 w1132 => (p_sld S (l4 + (1 : Int32))).bind fun v1143 => (p_sld S (l4 + (2 : Int32))).bind fun v1149 => (p_obj w1132 l2 10).bind fun _ => p_call (fD_unknown l2 v1143 v1149 w1132) <| p_kI fun v1150 w1150 => (p_obj w1150 l2 10).bind fun _ => p_call (fD_thrown l2 w1150) <| p_kI fun v1156 w1156 => if v1156 = v1132 then (if ¬ v1132 = 0 then (p_let (l4 + (5 : Int32)) fun (l4_1222 : Int32) => k_43 l1 l2 l3 l4_1222 w1156) else ((p_aldJ w1156 l3 (0 : Int32)).bind fun v1173 => if (lg_cmp v1173 (Int32.toInt64 v1150)) = 0 then (p_let (l4 + (5 : Int32)) fun (l4_1222 : Int32) => k_43 l1 l2 l3 l4_1222 w1156) else (p_retZ (0 : Int32) w1156))) else (p_retZ (0 : Int32) w1156)
set_option maxRecDepth 20000 in
set_option maxHeartbeats 2000000 in
theorem t_fL_law_1118 {Γ : PG} {k_43 : Nat → Nat → Nat → Int32 → PW → PX} (hk_43 : ∀ (l1 : Nat) (l2 : Nat) (l3 : Nat) (l4 : Int32) (w : PW), EE Γ ML_law 43 [(0, .retAddr 5), (1, .ref l1), (2, .ref l2), (3, .ref l3), (4, .int l4)] [] w (k_43 l1 l2 l3 l4 w)) : ∀ (l1 : Nat) (l2 : Nat) (l3 : Nat) (l4 : Int32) (w : PW), EE Γ ML_law 1118 [(0, .retAddr 5), (1, .ref l1), (2, .ref l2), (3, .ref l3), (4, .int l4)] [] w (fL_law_1118 (pg_S Γ) k_43 l1 l2 l3 l4 w) := by
  intro l1 l2 l3 l4 w
  unfold fL_law_1118
  refine ee_aload_n 1 dL_law_1118 rfl ?_
  refine ee_aload_nT 0 dL_law_1119 rfl ?_
  refine ee_iload 4 dL_law_1120 rfl ?_
  refine ee_iconst (v := (1 : Int32)) dL_law_1122 (by decide) ?_
  refine ee_iadd dL_law_1123 ?_
  refine ee_sld dL_law_1124 (fun v1124 _ => ?_)
  refine ee_aload_nT 0 dL_law_1125 rfl ?_
  refine ee_iload 4 dL_law_1126 rfl ?_
  refine ee_iconst (v := (2 : Int32)) dL_law_1128 (by decide) ?_
  refine ee_iadd dL_law_1129 ?_
  refine ee_sld dL_law_1130 (fun v1130 _ => ?_)
  refine ee_aload_n 3 dL_law_1131 rfl ?_
  refine ee_callSW (as := [.ref l1, .int v1124, .int v1130, .ref l3]) (st := []) dL_law_1132 (t_fL_unknown l1 v1124 v1130 l3 w) ⟨by decide, rfl, by decide, by decide⟩ gw_1142 gw_52 (Nat.le_of_ble_eq_true rfl) my_fL_unknown rfl gw_1140 gw_1141 ⟨Nat.le_of_ble_eq_true rfl, Nat.le_of_ble_eq_true rfl⟩ (Nat.le_of_ble_eq_true rfl) (fun rv1132 w1132 _ => ?_)
  refine ee_kI (fun v1132 => ?_)
  refine ee_istore (lv2 := [(5, .int v1132), (0, .retAddr 5), (1, .ref l1), (2, .ref l2), (3, .ref l3), (4, .int l4)]) dL_law_1135 (Nat.le_of_ble_eq_true rfl) rfl ?_
  refine ee_aload_n 3 dL_law_1137 rfl ?_
  refine ee_aload_nT 1 dL_law_1138 rfl ?_
  refine ee_iload 5 dL_law_1139 rfl ?_
  refine ee_iconst (v := (1 : Int32)) dL_law_1141 (by decide) ?_
  refine ee_iadd dL_law_1142 ?_
  refine ee_sld dL_law_1143 (fun v1143 _ => ?_)
  refine ee_aload_nT 1 dL_law_1144 rfl ?_
  refine ee_iload 5 dL_law_1145 rfl ?_
  refine ee_iconst (v := (2 : Int32)) dL_law_1147 (by decide) ?_
  refine ee_iadd dL_law_1148 ?_
  refine ee_sld dL_law_1149 (fun v1149 _ => ?_)
  refine ee_bind (fun _ ho1150 => ?_)
  refine ee_callV (as := [.int v1143, .int v1149]) (st := []) dL_law_1150 (t_fD_unknown l2 v1143 v1149 w1132) my_fD_unknown.1 (Nat.le_of_ble_eq_true rfl) my_fD_unknown.2 rfl cf_10.1 rfl (p_obj_eq.mp ho1150) gw_1599 gw_1600 gw_1601 ⟨Nat.le_of_ble_eq_true rfl, Nat.le_of_ble_eq_true rfl⟩ (Nat.le_of_ble_eq_true rfl) (fun rv1150 w1150 _ => ?_)
  refine ee_kI (fun v1150 => ?_)
  refine ee_istore (lv2 := [(6, .int v1150), (5, .int v1132), (0, .retAddr 5), (1, .ref l1), (2, .ref l2), (3, .ref l3), (4, .int l4)]) dL_law_1153 (Nat.le_of_ble_eq_true rfl) rfl ?_
  refine ee_aload_n 4 dL_law_1155 rfl ?_
  refine ee_bind (fun _ ho1156 => ?_)
  refine ee_callV (as := []) (st := []) dL_law_1156 (t_fD_thrown l2 w1150) my_fD_thrown.1 (Nat.le_of_ble_eq_true rfl) my_fD_thrown.2 rfl cf_10.1 rfl (p_obj_eq.mp ho1156) gw_1307 gw_1308 gw_1309 ⟨Nat.le_of_ble_eq_true rfl, Nat.le_of_ble_eq_true rfl⟩ (Nat.le_of_ble_eq_true rfl) (fun rv1156 w1156 _ => ?_)
  refine ee_kI (fun v1156 => ?_)
  refine ee_iload 1 dL_law_1159 rfl ?_
  refine ee_icmp_eq (tgt := 1166) dL_law_1161 (by decide) (fun h1161 => ?_) (fun h1161 => ?_)
  · refine ee_iload 1 dL_law_1166 rfl ?_
    refine ee_if_ne (tgt := 1183) dL_law_1168 (by decide) (fun h1168 => ?_) (fun h1168 => ?_)
    · refine ee_goto (tgt := 1222) dL_law_1183 (by decide) ?_
      refine ee_iinc 6 dL_law_1222 rfl (e := (5 : Int32)) (by decide) (Nat.le_of_ble_eq_true rfl) (fun l4_1222 _ => ?_)
      refine ee_lv (lv2 := [(4, .int l4_1222), (6, .int v1150), (5, .int v1132), (0, .retAddr 5), (1, .ref l1), (2, .ref l2), (3, .ref l3)]) rfl ?_
      refine ee_goto (tgt := 43) dL_law_1225 (by decide) ?_
      refine ee_pick [3, 4, 5, 6, 0] rfl ?_
      exact hk_43 _ _ _ _ w1156
    · refine ee_aload_n 5 dL_law_1171 rfl ?_
      refine ee_iconst (v := (0 : Int32)) dL_law_1172 (by decide) ?_
      refine ee_lald dL_law_1173 (fun v1173 _ => ?_)
      refine ee_iload 0 dL_law_1174 rfl ?_
      refine ee_i2l dL_law_1176 ?_
      refine ee_lcmp dL_law_1177 ?_
      refine ee_if_eq (tgt := 1183) dL_law_1178 (by decide) (fun h1178 => ?_) (fun h1178 => ?_)
      · refine ee_goto (tgt := 1222) dL_law_1183 (by decide) ?_
        refine ee_iinc 6 dL_law_1222 rfl (e := (5 : Int32)) (by decide) (Nat.le_of_ble_eq_true rfl) (fun l4_1222 _ => ?_)
        refine ee_lv (lv2 := [(4, .int l4_1222), (6, .int v1150), (5, .int v1132), (0, .retAddr 5), (1, .ref l1), (2, .ref l2), (3, .ref l3)]) rfl ?_
        refine ee_goto (tgt := 43) dL_law_1225 (by decide) ?_
        refine ee_pick [3, 4, 5, 6, 0] rfl ?_
        exact hk_43 _ _ _ _ w1156
      · refine ee_iconst (v := (0 : Int32)) dL_law_1181 (by decide) ?_
        exact ee_zret rfl dL_law_1182
  · refine ee_iconst (v := (0 : Int32)) dL_law_1164 (by decide) ?_
    exact ee_zret rfl dL_law_1165
def fL_law_1186 (S : Nat × (Nat → Int32)) (k_43 : Nat → Nat → Nat → Int32 → PW → PX) (l1 : Nat) (l2 : Nat) (l3 : Nat) (l4 : Int32) (w : PW) : PX := (p_sld S (l4 + (1 : Int32))).bind fun v1192 => (p_obj w l1 0).bind fun _ => p_call (fW_told l1 v1192 w) <| p_kI fun v1193 w1193 => (p_sld S (l4 + (1 : Int32))).bind fun v1202 => (p_obj w1193 l2 10).bind fun _ => p_call (fD_told l2 v1202 w1193) <| p_kI fun v1203 w1203 => if v1193 = v1203 then (p_let (l4 + (5 : Int32)) fun (l4_1222 : Int32) => k_43 l1 l2 l3 l4_1222 w1203) else (p_retZ (0 : Int32) w1203)
set_option maxRecDepth 20000 in
set_option maxHeartbeats 2000000 in
theorem t_fL_law_1186 {Γ : PG} {k_43 : Nat → Nat → Nat → Int32 → PW → PX} (hk_43 : ∀ (l1 : Nat) (l2 : Nat) (l3 : Nat) (l4 : Int32) (w : PW), EE Γ ML_law 43 [(0, .retAddr 5), (1, .ref l1), (2, .ref l2), (3, .ref l3), (4, .int l4)] [] w (k_43 l1 l2 l3 l4 w)) : ∀ (l1 : Nat) (l2 : Nat) (l3 : Nat) (l4 : Int32) (w : PW), EE Γ ML_law 1186 [(0, .retAddr 5), (1, .ref l1), (2, .ref l2), (3, .ref l3), (4, .int l4)] [] w (fL_law_1186 (pg_S Γ) k_43 l1 l2 l3 l4 w) := by
  intro l1 l2 l3 l4 w
  unfold fL_law_1186
  refine ee_aload_n 1 dL_law_1186 rfl ?_
  refine ee_aload_nT 0 dL_law_1187 rfl ?_
  refine ee_iload 4 dL_law_1188 rfl ?_
  refine ee_iconst (v := (1 : Int32)) dL_law_1190 (by decide) ?_
  refine ee_iadd dL_law_1191 ?_
  refine ee_sld dL_law_1192 (fun v1192 _ => ?_)
  refine ee_bind (fun _ ho1193 => ?_)
  refine ee_callV (as := [.int v1192]) (st := []) dL_law_1193 (t_fW_told l1 v1192 w) my_fW_told.1 (Nat.le_of_ble_eq_true rfl) my_fW_told.2 rfl cf_0.1 rfl (p_obj_eq.mp ho1193) gw_710 gw_711 gw_712 ⟨Nat.le_of_ble_eq_true rfl, Nat.le_of_ble_eq_true rfl⟩ (Nat.le_of_ble_eq_true rfl) (fun rv1193 w1193 _ => ?_)
  refine ee_kI (fun v1193 => ?_)
  refine ee_aload_n 2 dL_law_1196 rfl ?_
  refine ee_aload_nT 0 dL_law_1197 rfl ?_
  refine ee_iload 4 dL_law_1198 rfl ?_
  refine ee_iconst (v := (1 : Int32)) dL_law_1200 (by decide) ?_
  refine ee_iadd dL_law_1201 ?_
  refine ee_sld dL_law_1202 (fun v1202 _ => ?_)
  refine ee_bind (fun _ ho1203 => ?_)
  refine ee_callV (as := [.int v1202]) (st := [.int v1193]) dL_law_1203 (t_fD_told l2 v1202 w1193) my_fD_told.1 (Nat.le_of_ble_eq_true rfl) my_fD_told.2 rfl cf_10.1 rfl (p_obj_eq.mp ho1203) gw_1604 gw_1605 gw_1606 ⟨Nat.le_of_ble_eq_true rfl, Nat.le_of_ble_eq_true rfl⟩ (Nat.le_of_ble_eq_true rfl) (fun rv1203 w1203 _ => ?_)
  refine ee_kI (fun v1203 => ?_)
  refine ee_icmp_eq (tgt := 1222) dL_law_1206 (by decide) (fun h1206 => ?_) (fun h1206 => ?_)
  · refine ee_iinc 4 dL_law_1222 rfl (e := (5 : Int32)) (by decide) (Nat.le_of_ble_eq_true rfl) (fun l4_1222 _ => ?_)
    refine ee_lv (lv2 := [(4, .int l4_1222), (0, .retAddr 5), (1, .ref l1), (2, .ref l2), (3, .ref l3)]) rfl ?_
    refine ee_goto (tgt := 43) dL_law_1225 (by decide) ?_
    refine ee_pick [1, 2, 3, 4, 0] rfl ?_
    exact hk_43 _ _ _ _ w1203
  · refine ee_iconst (v := (0 : Int32)) dL_law_1209 (by decide) ?_
    exact ee_zret rfl dL_law_1210
def fL_law_1211 (S : Nat × (Nat → Int32)) (k_43 : Nat → Nat → Nat → Int32 → PW → PX) (l1 : Nat) (l2 : Nat) (l3 : Nat) (l4 : Int32) (w : PW) : PX := (p_obj w l1 0).bind fun _ => p_call (fW_clear l1 w) <| p_kV fun w1212 => (p_obj w1212 l2 10).bind fun _ => p_call (fD_clear l2 w1212) <| p_kV fun w1216 => p_let (l4 + (5 : Int32)) fun (l4_1222 : Int32) => k_43 l1 l2 l3 l4_1222 w1216
set_option maxRecDepth 20000 in
set_option maxHeartbeats 2000000 in
theorem t_fL_law_1211 {Γ : PG} {k_43 : Nat → Nat → Nat → Int32 → PW → PX} (hk_43 : ∀ (l1 : Nat) (l2 : Nat) (l3 : Nat) (l4 : Int32) (w : PW), EE Γ ML_law 43 [(0, .retAddr 5), (1, .ref l1), (2, .ref l2), (3, .ref l3), (4, .int l4)] [] w (k_43 l1 l2 l3 l4 w)) : ∀ (l1 : Nat) (l2 : Nat) (l3 : Nat) (l4 : Int32) (w : PW), EE Γ ML_law 1211 [(0, .retAddr 5), (1, .ref l1), (2, .ref l2), (3, .ref l3), (4, .int l4)] [] w (fL_law_1211 (pg_S Γ) k_43 l1 l2 l3 l4 w) := by
  intro l1 l2 l3 l4 w
  unfold fL_law_1211
  refine ee_aload_n 1 dL_law_1211 rfl ?_
  refine ee_bind (fun _ ho1212 => ?_)
  refine ee_callV (as := []) (st := []) dL_law_1212 (t_fW_clear l1 w) my_fW_clear.1 (Nat.le_of_ble_eq_true rfl) my_fW_clear.2 rfl cf_0.1 rfl (p_obj_eq.mp ho1212) gw_728 gw_729 gw_730 ⟨Nat.le_of_ble_eq_true rfl, Nat.le_of_ble_eq_true rfl⟩ (Nat.le_of_ble_eq_true rfl) (fun rv1212 w1212 _ => ?_)
  refine ee_kV ?_
  refine ee_aload_n 2 dL_law_1215 rfl ?_
  refine ee_bind (fun _ ho1216 => ?_)
  refine ee_callV (as := []) (st := []) dL_law_1216 (t_fD_clear l2 w1212) my_fD_clear.1 (Nat.le_of_ble_eq_true rfl) my_fD_clear.2 rfl cf_10.1 rfl (p_obj_eq.mp ho1216) gw_1608 gw_1163 gw_1164 ⟨Nat.le_of_ble_eq_true rfl, Nat.le_of_ble_eq_true rfl⟩ (Nat.le_of_ble_eq_true rfl) (fun rv1216 w1216 _ => ?_)
  refine ee_kV ?_
  refine ee_goto (tgt := 1222) dL_law_1219 (by decide) ?_
  refine ee_iinc 4 dL_law_1222 rfl (e := (5 : Int32)) (by decide) (Nat.le_of_ble_eq_true rfl) (fun l4_1222 _ => ?_)
  refine ee_lv (lv2 := [(4, .int l4_1222), (0, .retAddr 5), (1, .ref l1), (2, .ref l2), (3, .ref l3)]) rfl ?_
  refine ee_goto (tgt := 43) dL_law_1225 (by decide) ?_
  refine ee_pick [1, 2, 3, 4, 0] rfl ?_
  exact hk_43 _ _ _ _ w1216
def fL_law_43 (S : Nat × (Nat → Int32)) : Nat → Nat → Nat → Nat → Int32 → PW → PX
  | 0, _, _, _, _, _ => none
  | n9 + 1, l1, l2, l3, l4, w => p_let (Int32.ofNat S.1) fun v46 => if (v46 - (5 : Int32)) < l4 then (p_retZ (1 : Int32) w) else ((p_sld S l4).bind fun v55 => if (v55 &&& (31 : Int32)) = (0 : Int32) then (fL_law_148 S (fL_law_43 S n9) l1 l2 l3 l4 w) else if (v55 &&& (31 : Int32)) = (1 : Int32) then (fL_law_240 S (fL_law_43 S n9) l1 l2 l3 l4 w) else if (v55 &&& (31 : Int32)) = (2 : Int32) then (fL_law_296 S (fL_law_43 S n9) l1 l2 l3 l4 w) else if (v55 &&& (31 : Int32)) = (3 : Int32) then (fL_law_352 S (fL_law_43 S n9) l1 l2 l3 l4 w) else if (v55 &&& (31 : Int32)) = (4 : Int32) then (fL_law_420 S (fL_law_43 S n9) l1 l2 l3 l4 w) else if (v55 &&& (31 : Int32)) = (5 : Int32) then (fL_law_504 S (fL_law_43 S n9) l1 l2 l3 l4 w) else if (v55 &&& (31 : Int32)) = (6 : Int32) then (fL_law_572 S (fL_law_43 S n9) l1 l2 l3 l4 w) else if (v55 &&& (31 : Int32)) = (7 : Int32) then (fL_law_585 S (fL_law_43 S n9) l1 l2 l3 l4 w) else if (v55 &&& (31 : Int32)) = (8 : Int32) then (fL_law_641 S (fL_law_43 S n9) l1 l2 l3 l4 w) else if (v55 &&& (31 : Int32)) = (9 : Int32) then (fL_law_697 S (fL_law_43 S n9) l1 l2 l3 l4 w) else if (v55 &&& (31 : Int32)) = (10 : Int32) then (fL_law_765 S (fL_law_43 S n9) l1 l2 l3 l4 w) else if (v55 &&& (31 : Int32)) = (11 : Int32) then (fL_law_833 S (fL_law_43 S n9) l1 l2 l3 l4 w) else if (v55 &&& (31 : Int32)) = (12 : Int32) then (fL_law_889 S (fL_law_43 S n9) l1 l2 l3 l4 w) else if (v55 &&& (31 : Int32)) = (13 : Int32) then (fL_law_902 S (fL_law_43 S n9) l1 l2 l3 l4 w) else if (v55 &&& (31 : Int32)) = (14 : Int32) then (fL_law_982 S (fL_law_43 S n9) l1 l2 l3 l4 w) else if (v55 &&& (31 : Int32)) = (15 : Int32) then (fL_law_1050 S (fL_law_43 S n9) l1 l2 l3 l4 w) else if (v55 &&& (31 : Int32)) = (16 : Int32) then (fL_law_1118 S (fL_law_43 S n9) l1 l2 l3 l4 w) else if (v55 &&& (31 : Int32)) = (17 : Int32) then (fL_law_1186 S (fL_law_43 S n9) l1 l2 l3 l4 w) else if (v55 &&& (31 : Int32)) = (18 : Int32) then (fL_law_1211 S (fL_law_43 S n9) l1 l2 l3 l4 w) else (p_let (l4 + (5 : Int32)) fun (l4_1222 : Int32) => (fL_law_43 S n9) l1 l2 l3 l4_1222 w))
set_option maxRecDepth 20000 in
set_option maxHeartbeats 2000000 in
theorem t_fL_law_43 {Γ : PG} : ∀ (n9 : Nat) (l1 : Nat) (l2 : Nat) (l3 : Nat) (l4 : Int32) (w : PW), EE Γ ML_law 43 [(0, .retAddr 5), (1, .ref l1), (2, .ref l2), (3, .ref l3), (4, .int l4)] [] w (fL_law_43 (pg_S Γ) n9 l1 l2 l3 l4 w) := by
  intro n9
  induction n9 with
  | zero => intro l1 l2 l3 l4 w; exact ee_none
  | succ n9 ih =>
    intro l1 l2 l3 l4 w
    unfold fL_law_43
    refine ee_iload 4 dL_law_43 rfl ?_
    refine ee_aload_nT 0 dL_law_45 rfl ?_
    refine ee_slen dL_law_46 (fun v46 _ => ?_)
    refine ee_iconst (v := (5 : Int32)) dL_law_47 (by decide) ?_
    refine ee_isub dL_law_48 ?_
    refine ee_icmp_gt (tgt := 1228) dL_law_49 (by decide) (fun h49 => ?_) (fun h49 => ?_)
    · refine ee_iconst (v := (1 : Int32)) dL_law_1228 (by decide) ?_
      exact ee_zret rfl dL_law_1229
    · refine ee_aload_nT 0 dL_law_52 rfl ?_
      refine ee_iload 4 dL_law_53 rfl ?_
      refine ee_sld dL_law_55 (fun v55 _ => ?_)
      refine ee_bipush (v := (31 : Int32)) dL_law_56 (by decide) ?_
      refine ee_iand dL_law_58 ?_
      refine ee_ite (fun h59_0 => ?_) (fun h59_0 => ?_)
      · refine ee_tabIn (tgt := 148) dL_law_59 (by rw [h59_0]; decide) (by rw [h59_0]; decide) (by rw [h59_0]; rfl) (by decide) ?_
        exact t_fL_law_148 ih _ _ _ _ w
      · skip
        refine ee_ite (fun h59_1 => ?_) (fun h59_1 => ?_)
        · refine ee_tabIn (tgt := 240) dL_law_59 (by rw [h59_1]; decide) (by rw [h59_1]; decide) (by rw [h59_1]; rfl) (by decide) ?_
          exact t_fL_law_240 ih _ _ _ _ w
        · skip
          refine ee_ite (fun h59_2 => ?_) (fun h59_2 => ?_)
          · refine ee_tabIn (tgt := 296) dL_law_59 (by rw [h59_2]; decide) (by rw [h59_2]; decide) (by rw [h59_2]; rfl) (by decide) ?_
            exact t_fL_law_296 ih _ _ _ _ w
          · skip
            refine ee_ite (fun h59_3 => ?_) (fun h59_3 => ?_)
            · refine ee_tabIn (tgt := 352) dL_law_59 (by rw [h59_3]; decide) (by rw [h59_3]; decide) (by rw [h59_3]; rfl) (by decide) ?_
              exact t_fL_law_352 ih _ _ _ _ w
            · skip
              refine ee_ite (fun h59_4 => ?_) (fun h59_4 => ?_)
              · refine ee_tabIn (tgt := 420) dL_law_59 (by rw [h59_4]; decide) (by rw [h59_4]; decide) (by rw [h59_4]; rfl) (by decide) ?_
                exact t_fL_law_420 ih _ _ _ _ w
              · skip
                refine ee_ite (fun h59_5 => ?_) (fun h59_5 => ?_)
                · refine ee_tabIn (tgt := 504) dL_law_59 (by rw [h59_5]; decide) (by rw [h59_5]; decide) (by rw [h59_5]; rfl) (by decide) ?_
                  exact t_fL_law_504 ih _ _ _ _ w
                · skip
                  refine ee_ite (fun h59_6 => ?_) (fun h59_6 => ?_)
                  · refine ee_tabIn (tgt := 572) dL_law_59 (by rw [h59_6]; decide) (by rw [h59_6]; decide) (by rw [h59_6]; rfl) (by decide) ?_
                    exact t_fL_law_572 ih _ _ _ _ w
                  · skip
                    refine ee_ite (fun h59_7 => ?_) (fun h59_7 => ?_)
                    · refine ee_tabIn (tgt := 585) dL_law_59 (by rw [h59_7]; decide) (by rw [h59_7]; decide) (by rw [h59_7]; rfl) (by decide) ?_
                      exact t_fL_law_585 ih _ _ _ _ w
                    · skip
                      refine ee_ite (fun h59_8 => ?_) (fun h59_8 => ?_)
                      · refine ee_tabIn (tgt := 641) dL_law_59 (by rw [h59_8]; decide) (by rw [h59_8]; decide) (by rw [h59_8]; rfl) (by decide) ?_
                        exact t_fL_law_641 ih _ _ _ _ w
                      · skip
                        refine ee_ite (fun h59_9 => ?_) (fun h59_9 => ?_)
                        · refine ee_tabIn (tgt := 697) dL_law_59 (by rw [h59_9]; decide) (by rw [h59_9]; decide) (by rw [h59_9]; rfl) (by decide) ?_
                          exact t_fL_law_697 ih _ _ _ _ w
                        · skip
                          refine ee_ite (fun h59_10 => ?_) (fun h59_10 => ?_)
                          · refine ee_tabIn (tgt := 765) dL_law_59 (by rw [h59_10]; decide) (by rw [h59_10]; decide) (by rw [h59_10]; rfl) (by decide) ?_
                            exact t_fL_law_765 ih _ _ _ _ w
                          · skip
                            refine ee_ite (fun h59_11 => ?_) (fun h59_11 => ?_)
                            · refine ee_tabIn (tgt := 833) dL_law_59 (by rw [h59_11]; decide) (by rw [h59_11]; decide) (by rw [h59_11]; rfl) (by decide) ?_
                              exact t_fL_law_833 ih _ _ _ _ w
                            · skip
                              refine ee_ite (fun h59_12 => ?_) (fun h59_12 => ?_)
                              · refine ee_tabIn (tgt := 889) dL_law_59 (by rw [h59_12]; decide) (by rw [h59_12]; decide) (by rw [h59_12]; rfl) (by decide) ?_
                                exact t_fL_law_889 ih _ _ _ _ w
                              · skip
                                refine ee_ite (fun h59_13 => ?_) (fun h59_13 => ?_)
                                · refine ee_tabIn (tgt := 902) dL_law_59 (by rw [h59_13]; decide) (by rw [h59_13]; decide) (by rw [h59_13]; rfl) (by decide) ?_
                                  exact t_fL_law_902 ih _ _ _ _ w
                                · skip
                                  refine ee_ite (fun h59_14 => ?_) (fun h59_14 => ?_)
                                  · refine ee_tabIn (tgt := 982) dL_law_59 (by rw [h59_14]; decide) (by rw [h59_14]; decide) (by rw [h59_14]; rfl) (by decide) ?_
                                    exact t_fL_law_982 ih _ _ _ _ w
                                  · skip
                                    refine ee_ite (fun h59_15 => ?_) (fun h59_15 => ?_)
                                    · refine ee_tabIn (tgt := 1050) dL_law_59 (by rw [h59_15]; decide) (by rw [h59_15]; decide) (by rw [h59_15]; rfl) (by decide) ?_
                                      exact t_fL_law_1050 ih _ _ _ _ w
                                    · skip
                                      refine ee_ite (fun h59_16 => ?_) (fun h59_16 => ?_)
                                      · refine ee_tabIn (tgt := 1118) dL_law_59 (by rw [h59_16]; decide) (by rw [h59_16]; decide) (by rw [h59_16]; rfl) (by decide) ?_
                                        exact t_fL_law_1118 ih _ _ _ _ w
                                      · skip
                                        refine ee_ite (fun h59_17 => ?_) (fun h59_17 => ?_)
                                        · refine ee_tabIn (tgt := 1186) dL_law_59 (by rw [h59_17]; decide) (by rw [h59_17]; decide) (by rw [h59_17]; rfl) (by decide) ?_
                                          exact t_fL_law_1186 ih _ _ _ _ w
                                        · skip
                                          refine ee_ite (fun h59_18 => ?_) (fun h59_18 => ?_)
                                          · refine ee_tabIn (tgt := 1211) dL_law_59 (by rw [h59_18]; decide) (by rw [h59_18]; decide) (by rw [h59_18]; rfl) (by decide) ?_
                                            exact t_fL_law_1211 ih _ _ _ _ w
                                          · skip
                                            refine ee_tabOut (tgt := 1222) dL_law_59 (by have e0 : ¬ Int32.toInt (v55 &&& (31 : Int32)) = (0 : Int) := fun h => h59_0 (Int32.toInt_inj.mp (h.trans (show (0 : Int) = (0 : Int32).toInt by decide))); have e1 : ¬ Int32.toInt (v55 &&& (31 : Int32)) = (1 : Int) := fun h => h59_1 (Int32.toInt_inj.mp (h.trans (show (1 : Int) = (1 : Int32).toInt by decide))); have e2 : ¬ Int32.toInt (v55 &&& (31 : Int32)) = (2 : Int) := fun h => h59_2 (Int32.toInt_inj.mp (h.trans (show (2 : Int) = (2 : Int32).toInt by decide))); have e3 : ¬ Int32.toInt (v55 &&& (31 : Int32)) = (3 : Int) := fun h => h59_3 (Int32.toInt_inj.mp (h.trans (show (3 : Int) = (3 : Int32).toInt by decide))); have e4 : ¬ Int32.toInt (v55 &&& (31 : Int32)) = (4 : Int) := fun h => h59_4 (Int32.toInt_inj.mp (h.trans (show (4 : Int) = (4 : Int32).toInt by decide))); have e5 : ¬ Int32.toInt (v55 &&& (31 : Int32)) = (5 : Int) := fun h => h59_5 (Int32.toInt_inj.mp (h.trans (show (5 : Int) = (5 : Int32).toInt by decide))); have e6 : ¬ Int32.toInt (v55 &&& (31 : Int32)) = (6 : Int) := fun h => h59_6 (Int32.toInt_inj.mp (h.trans (show (6 : Int) = (6 : Int32).toInt by decide))); have e7 : ¬ Int32.toInt (v55 &&& (31 : Int32)) = (7 : Int) := fun h => h59_7 (Int32.toInt_inj.mp (h.trans (show (7 : Int) = (7 : Int32).toInt by decide))); have e8 : ¬ Int32.toInt (v55 &&& (31 : Int32)) = (8 : Int) := fun h => h59_8 (Int32.toInt_inj.mp (h.trans (show (8 : Int) = (8 : Int32).toInt by decide))); have e9 : ¬ Int32.toInt (v55 &&& (31 : Int32)) = (9 : Int) := fun h => h59_9 (Int32.toInt_inj.mp (h.trans (show (9 : Int) = (9 : Int32).toInt by decide))); have e10 : ¬ Int32.toInt (v55 &&& (31 : Int32)) = (10 : Int) := fun h => h59_10 (Int32.toInt_inj.mp (h.trans (show (10 : Int) = (10 : Int32).toInt by decide))); have e11 : ¬ Int32.toInt (v55 &&& (31 : Int32)) = (11 : Int) := fun h => h59_11 (Int32.toInt_inj.mp (h.trans (show (11 : Int) = (11 : Int32).toInt by decide))); have e12 : ¬ Int32.toInt (v55 &&& (31 : Int32)) = (12 : Int) := fun h => h59_12 (Int32.toInt_inj.mp (h.trans (show (12 : Int) = (12 : Int32).toInt by decide))); have e13 : ¬ Int32.toInt (v55 &&& (31 : Int32)) = (13 : Int) := fun h => h59_13 (Int32.toInt_inj.mp (h.trans (show (13 : Int) = (13 : Int32).toInt by decide))); have e14 : ¬ Int32.toInt (v55 &&& (31 : Int32)) = (14 : Int) := fun h => h59_14 (Int32.toInt_inj.mp (h.trans (show (14 : Int) = (14 : Int32).toInt by decide))); have e15 : ¬ Int32.toInt (v55 &&& (31 : Int32)) = (15 : Int) := fun h => h59_15 (Int32.toInt_inj.mp (h.trans (show (15 : Int) = (15 : Int32).toInt by decide))); have e16 : ¬ Int32.toInt (v55 &&& (31 : Int32)) = (16 : Int) := fun h => h59_16 (Int32.toInt_inj.mp (h.trans (show (16 : Int) = (16 : Int32).toInt by decide))); have e17 : ¬ Int32.toInt (v55 &&& (31 : Int32)) = (17 : Int) := fun h => h59_17 (Int32.toInt_inj.mp (h.trans (show (17 : Int) = (17 : Int32).toInt by decide))); have e18 : ¬ Int32.toInt (v55 &&& (31 : Int32)) = (18 : Int) := fun h => h59_18 (Int32.toInt_inj.mp (h.trans (show (18 : Int) = (18 : Int32).toInt by decide))); omega) (by decide) ?_
                                            refine ee_iinc 4 dL_law_1222 rfl (e := (5 : Int32)) (by decide) (Nat.le_of_ble_eq_true rfl) (fun l4_1222 _ => ?_)
                                            refine ee_lv (lv2 := [(4, .int l4_1222), (0, .retAddr 5), (1, .ref l1), (2, .ref l2), (3, .ref l3)]) rfl ?_
                                            refine ee_goto (tgt := 43) dL_law_1225 (by decide) ?_
                                            refine ee_pick [1, 2, 3, 4, 0] rfl ?_
                                            exact ih _ _ _ _ w
def fL_law (S : Nat × (Nat → Int32)) (w : PW) : PX := p_newO w 0 11 [.null, .null, .null, .null, .null, .null, .null, .null, .null, .null, .int 0] fun v0 w0 => p_call (fL_cell S (0 : Int32) w0) <| p_kI fun v6 w6 => p_call (fL_cell S (1 : Int32) w6) <| p_kI fun v11 w11 => p_call (fW_init v0 v6 v11 w11) <| p_kV fun w14 => p_newO w14 10 44 [.int 0, .int 0, .int 0, .null, .null, .null, .null, .null, .int 0, .null, .null, .null, .null, .null, .int 0, .null, .null, .null, .null, .null, .int 0, .null, .int 0, .null, .int 0, .int 0, .int 0, .int 0, .null, .null, .int 0, .null, .null, .null, .null, .null, .null, .null, .null, .int 0, .int 0, .int 0, .null, .int 0] fun v18 w18 => p_call (fL_cell S (0 : Int32) w18) <| p_kI fun v24 w24 => p_call (fL_cell S (1 : Int32) w24) <| p_kI fun v29 w29 => p_call (fD_init v18 v24 v29 w29) <| p_kV fun w32 => p_newJ w32 (1 : Int32) fun v37 w37 => fL_law_43 S FUEL v0 v18 v37 (2 : Int32) w37
set_option maxRecDepth 20000 in
set_option maxHeartbeats 2000000 in
theorem t_fL_law {Γ : PG} : ∀ (w : PW), EE Γ ML_law 0 (lv_args 0 [.retAddr 5]) [] w (fL_law (pg_S Γ) w) := by
  intro w
  unfold fL_law
  show EE Γ ML_law 0 [(0, .retAddr 5)] [] w _
  refine ee_new dL_law_0 lnL_8 (fun v0 w0 _ _ => ?_)
  refine ee_dup dL_law_3 rfl ?_
  refine ee_aload_nT 0 dL_law_4 rfl ?_
  refine ee_iconst (v := (0 : Int32)) dL_law_5 (by decide) ?_
  refine ee_callS (as := [.retAddr 5, .int (0 : Int32)]) (st := [.ref v0, .ref v0]) dL_law_6 (t_fL_cell (0 : Int32) w0) my_fL_cell.1 (Nat.le_of_ble_eq_true rfl) my_fL_cell.2 rfl gw_736 gw_737 ⟨Nat.le_of_ble_eq_true rfl, Nat.le_of_ble_eq_true rfl⟩ (Nat.le_of_ble_eq_true rfl) (fun rv6 w6 _ => ?_)
  refine ee_kI (fun v6 => ?_)
  refine ee_aload_nT 0 dL_law_9 rfl ?_
  refine ee_iconst (v := (1 : Int32)) dL_law_10 (by decide) ?_
  refine ee_callS (as := [.retAddr 5, .int (1 : Int32)]) (st := [.int v6, .ref v0, .ref v0]) dL_law_11 (t_fL_cell (1 : Int32) w6) my_fL_cell.1 (Nat.le_of_ble_eq_true rfl) my_fL_cell.2 rfl gw_736 gw_737 ⟨Nat.le_of_ble_eq_true rfl, Nat.le_of_ble_eq_true rfl⟩ (Nat.le_of_ble_eq_true rfl) (fun rv11 w11 _ => ?_)
  refine ee_kI (fun v11 => ?_)
  refine ee_callI (as := [.int v6, .int v11]) (st := [.ref v0]) dL_law_14 (t_fW_init v0 v6 v11 w11) my_fW_init.1 (Nat.le_of_ble_eq_true rfl) my_fW_init.2 rfl rfl rfl gw_82 gw_83 ⟨Nat.le_of_ble_eq_true rfl, Nat.le_of_ble_eq_true rfl⟩ (Nat.le_of_ble_eq_true rfl) (fun rv14 w14 _ => ?_)
  refine ee_kV ?_
  refine ee_astore_n (lv2 := [(1, .ref v0), (0, .retAddr 5)]) dL_law_17 (Nat.le_of_ble_eq_true rfl) rfl ?_
  refine ee_new dL_law_18 lnL_76 (fun v18 w18 _ _ => ?_)
  refine ee_dup dL_law_21 rfl ?_
  refine ee_aload_nT 1 dL_law_22 rfl ?_
  refine ee_iconst (v := (0 : Int32)) dL_law_23 (by decide) ?_
  refine ee_callS (as := [.retAddr 5, .int (0 : Int32)]) (st := [.ref v18, .ref v18]) dL_law_24 (t_fL_cell (0 : Int32) w18) my_fL_cell.1 (Nat.le_of_ble_eq_true rfl) my_fL_cell.2 rfl gw_736 gw_737 ⟨Nat.le_of_ble_eq_true rfl, Nat.le_of_ble_eq_true rfl⟩ (Nat.le_of_ble_eq_true rfl) (fun rv24 w24 _ => ?_)
  refine ee_kI (fun v24 => ?_)
  refine ee_aload_nT 1 dL_law_27 rfl ?_
  refine ee_iconst (v := (1 : Int32)) dL_law_28 (by decide) ?_
  refine ee_callS (as := [.retAddr 5, .int (1 : Int32)]) (st := [.int v24, .ref v18, .ref v18]) dL_law_29 (t_fL_cell (1 : Int32) w24) my_fL_cell.1 (Nat.le_of_ble_eq_true rfl) my_fL_cell.2 rfl gw_736 gw_737 ⟨Nat.le_of_ble_eq_true rfl, Nat.le_of_ble_eq_true rfl⟩ (Nat.le_of_ble_eq_true rfl) (fun rv29 w29 _ => ?_)
  refine ee_kI (fun v29 => ?_)
  refine ee_callI (as := [.int v24, .int v29]) (st := [.ref v18]) dL_law_32 (t_fD_init v18 v24 v29 w29) my_fD_init.1 (Nat.le_of_ble_eq_true rfl) my_fD_init.2 rfl rfl rfl gw_1154 gw_1155 ⟨Nat.le_of_ble_eq_true rfl, Nat.le_of_ble_eq_true rfl⟩ (Nat.le_of_ble_eq_true rfl) (fun rv32 w32 _ => ?_)
  refine ee_kV ?_
  refine ee_astore_n (lv2 := [(2, .ref v18), (1, .ref v0), (0, .retAddr 5)]) dL_law_35 (Nat.le_of_ble_eq_true rfl) rfl ?_
  refine ee_iconst (v := (1 : Int32)) dL_law_36 (by decide) ?_
  refine ee_newJ dL_law_37 (fun v37 w37 _ _ _ => ?_)
  refine ee_astore_n (lv2 := [(3, .ref v37), (2, .ref v18), (1, .ref v0), (0, .retAddr 5)]) dL_law_39 (Nat.le_of_ble_eq_true rfl) rfl ?_
  refine ee_iconst (v := (2 : Int32)) dL_law_40 (by decide) ?_
  refine ee_istore (lv2 := [(4, .int (2 : Int32)), (3, .ref v37), (2, .ref v18), (1, .ref v0), (0, .retAddr 5)]) dL_law_41 (Nat.le_of_ble_eq_true rfl) rfl ?_
  refine ee_pick [4, 3, 2, 1, 0] rfl ?_
  exact t_fL_law_43 FUEL _ _ _ _ w37
