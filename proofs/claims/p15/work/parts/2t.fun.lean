def fL_cell (S : Nat × (Nat → Int32)) (l1 : Int32) (w : PW) : PX := p_let (Int32.ofNat S.1) fun v2 => if v2 ≤ l1 then (some (.inl (some (.int (0 : Int32))), w)) else ((p_sld S l1).bind fun v8 => some (.inl (some (.int v8)), w))
set_option maxRecDepth 20000 in
set_option maxHeartbeats 2000000 in
theorem t_fL_cell {Γ : PG} : ∀ (l1 : Int32) (w : PW), EE Γ ML_cell 0 (lv_args 0 [.retAddr 5, .int l1]) [] w (fL_cell (pg_S Γ) l1 w) := by
  intro l1 w
  unfold fL_cell
  show EE Γ ML_cell 0 [(0, .retAddr 5), (1, .int l1)] [] w _
  refine ee_iload_n 1 dL_cell_0 rfl ?_
  refine ee_aload_nT 0 dL_cell_1 rfl ?_
  refine ee_slen dL_cell_2 (fun v2 _ => ?_)
  refine ee_icmp_ge (tgt := 12) dL_cell_3 (by decide) (fun h3 => ?_) (fun h3 => ?_)
  · refine ee_iconst (v := (0 : Int32)) dL_cell_12 (by decide) ?_
    exact ee_iret rfl dL_cell_13
  · refine ee_aload_nT 0 dL_cell_6 rfl ?_
    refine ee_iload_n 1 dL_cell_7 rfl ?_
    refine ee_sld dL_cell_8 (fun v8 _ => ?_)
    refine ee_goto (tgt := 13) dL_cell_9 (by decide) ?_
    exact ee_iret rfl dL_cell_13
def fL_set (l0 : Nat) (l1 : Int32) (l2 : Int32) (l3 : Int32) (l4 : Int32) (l5 : Nat) (w : PW) : PX := (p_obj w l0 0).bind fun _ => p_callX (fW_set l0 l1 l2 l3 l4 w) (p_kI fun v9 w9 => (p_astJ w9 l5 (0 : Int32) (Int32.toInt64 v9)).bind fun w13 => some (.inl (some (.int (0 : Int32))), w13)) [("java/lang/IndexOutOfBoundsException", fun (w9 : PW) => some (.inl (some (.int (1 : Int32))), w9)), ("java/lang/IllegalStateException", fun (w9 : PW) => some (.inl (some (.int (2 : Int32))), w9)), ("java/lang/IllegalArgumentException", fun (w9 : PW) => some (.inl (some (.int (3 : Int32))), w9))]
set_option maxRecDepth 20000 in
set_option maxHeartbeats 2000000 in
theorem t_fL_set {Γ : PG} : ∀ (l0 : Nat) (l1 : Int32) (l2 : Int32) (l3 : Int32) (l4 : Int32) (l5 : Nat) (w : PW), EE Γ ML_set 0 (lv_args 0 [.ref l0, .int l1, .int l2, .int l3, .int l4, .ref l5]) [] w (fL_set l0 l1 l2 l3 l4 l5 w) := by
  intro l0 l1 l2 l3 l4 l5 w
  unfold fL_set
  show EE Γ ML_set 0 [(0, .ref l0), (1, .int l1), (2, .int l2), (3, .int l3), (4, .int l4), (5, .ref l5)] [] w _
  refine ee_aload 5 dL_set_0 rfl ?_
  refine ee_iconst (v := (0 : Int32)) dL_set_2 (by decide) ?_
  refine ee_aload_n 0 dL_set_3 rfl ?_
  refine ee_iload_n 1 dL_set_4 rfl ?_
  refine ee_iload_n 2 dL_set_5 rfl ?_
  refine ee_iload_n 3 dL_set_6 rfl ?_
  refine ee_iload 4 dL_set_7 rfl ?_
  refine ee_bind (fun _ ho9 => ?_)
  refine ee_callVX (as := [.int l1, .int l2, .int l3, .int l4]) (st := [.int (0 : Int32), .ref l5]) dL_set_9 (t_fW_set l0 l1 l2 l3 l4 w) my_fW_set.1 (Nat.le_of_ble_eq_true rfl) my_fW_set.2 rfl cf_0.1 rfl (p_obj_eq.mp ho9) gw_745 gw_746 gw_747 ⟨Nat.le_of_ble_eq_true rfl, Nat.le_of_ble_eq_true rfl⟩ (Nat.le_of_ble_eq_true rfl) gw_741 ?_ (fun rv9 w9 _ => ?_)
  · refine List.forall_mem_cons.mpr ⟨?_, List.forall_mem_cons.mpr ⟨?_, List.forall_mem_cons.mpr ⟨?_, fun _ h => absurd h List.not_mem_nil⟩⟩⟩
    · refine ⟨17, ⟨⟨by decide, by decide, by decide⟩, _, gw_742, Or.inl ⟨gw_757, rfl⟩⟩, fun w9 => ?_⟩
      show EE Γ ML_set 17 [(0, .ref l0), (1, .int l1), (2, .int l2), (3, .int l3), (4, .int l4), (5, .ref l5)] [.float 0] w9 _
      refine ee_astoreE (lv2 := [(6, .float 0), (0, .ref l0), (1, .int l1), (2, .int l2), (3, .int l3), (4, .int l4), (5, .ref l5)]) dL_set_17 (Nat.le_of_ble_eq_true rfl) rfl ?_
      refine ee_iconst (v := (1 : Int32)) dL_set_19 (by decide) ?_
      exact ee_iret rfl dL_set_20
    · refine ⟨21, ⟨⟨by decide, by decide, by decide⟩, _, gw_742, Or.inr ⟨by decide +kernel, ⟨⟨by decide, by decide, by decide⟩, _, gw_743, Or.inl ⟨gw_833, rfl⟩⟩⟩⟩, fun w9 => ?_⟩
      show EE Γ ML_set 21 [(0, .ref l0), (1, .int l1), (2, .int l2), (3, .int l3), (4, .int l4), (5, .ref l5)] [.float 0] w9 _
      refine ee_astoreE (lv2 := [(6, .float 0), (0, .ref l0), (1, .int l1), (2, .int l2), (3, .int l3), (4, .int l4), (5, .ref l5)]) dL_set_21 (Nat.le_of_ble_eq_true rfl) rfl ?_
      refine ee_iconst (v := (2 : Int32)) dL_set_23 (by decide) ?_
      exact ee_iret rfl dL_set_24
    · refine ⟨25, ⟨⟨by decide, by decide, by decide⟩, _, gw_742, Or.inr ⟨by decide +kernel, ⟨⟨by decide, by decide, by decide⟩, _, gw_743, Or.inr ⟨by decide +kernel, ⟨⟨by decide, by decide, by decide⟩, _, gw_744, Or.inl ⟨gw_854, rfl⟩⟩⟩⟩⟩⟩, fun w9 => ?_⟩
      show EE Γ ML_set 25 [(0, .ref l0), (1, .int l1), (2, .int l2), (3, .int l3), (4, .int l4), (5, .ref l5)] [.float 0] w9 _
      refine ee_astoreE (lv2 := [(6, .float 0), (0, .ref l0), (1, .int l1), (2, .int l2), (3, .int l3), (4, .int l4), (5, .ref l5)]) dL_set_25 (Nat.le_of_ble_eq_true rfl) rfl ?_
      refine ee_iconst (v := (3 : Int32)) dL_set_27 (by decide) ?_
      exact ee_iret rfl dL_set_28
  · refine ee_kI (fun v9 => ?_)
    refine ee_i2l dL_set_12 ?_
    refine ee_last dL_set_13 (fun w13 _ => ?_)
    refine ee_goto (tgt := 29) dL_set_14 (by decide) ?_
    refine ee_iconst (v := (0 : Int32)) dL_set_29 (by decide) ?_
    exact ee_iret rfl dL_set_30
def fL_tilePart (l0 : Nat) (l1 : Int32) (l2 : Nat) (w : PW) : PX := (p_obj w l0 0).bind fun _ => p_callX (fW_tilePart l0 l1 w) (p_kI fun v4 w4 => (p_astJ w4 l2 (0 : Int32) (Int32.toInt64 v4)).bind fun w8 => some (.inl (some (.int (0 : Int32))), w8)) [("java/lang/IndexOutOfBoundsException", fun (w9 : PW) => some (.inl (some (.int (1 : Int32))), w9)), ("java/lang/UnsupportedOperationException", fun (w9 : PW) => some (.inl (some (.int (2 : Int32))), w9))]
set_option maxRecDepth 20000 in
set_option maxHeartbeats 2000000 in
theorem t_fL_tilePart {Γ : PG} : ∀ (l0 : Nat) (l1 : Int32) (l2 : Nat) (w : PW), EE Γ ML_tilePart 0 (lv_args 0 [.ref l0, .int l1, .ref l2]) [] w (fL_tilePart l0 l1 l2 w) := by
  intro l0 l1 l2 w
  unfold fL_tilePart
  show EE Γ ML_tilePart 0 [(0, .ref l0), (1, .int l1), (2, .ref l2)] [] w _
  refine ee_aload_n 2 dL_tilePart_0 rfl ?_
  refine ee_iconst (v := (0 : Int32)) dL_tilePart_1 (by decide) ?_
  refine ee_aload_n 0 dL_tilePart_2 rfl ?_
  refine ee_iload_n 1 dL_tilePart_3 rfl ?_
  refine ee_bind (fun _ ho4 => ?_)
  refine ee_callVX (as := [.int l1]) (st := [.int (0 : Int32), .ref l2]) dL_tilePart_4 (t_fW_tilePart l0 l1 w) my_fW_tilePart.1 (Nat.le_of_ble_eq_true rfl) my_fW_tilePart.2 rfl cf_0.1 rfl (p_obj_eq.mp ho4) gw_882 gw_883 gw_884 ⟨Nat.le_of_ble_eq_true rfl, Nat.le_of_ble_eq_true rfl⟩ (Nat.le_of_ble_eq_true rfl) gw_880 ?_ (fun rv4 w4 _ => ?_)
  · refine List.forall_mem_cons.mpr ⟨?_, List.forall_mem_cons.mpr ⟨?_, fun _ h => absurd h List.not_mem_nil⟩⟩
    · refine ⟨12, ⟨⟨by decide, by decide, by decide⟩, _, gw_742, Or.inl ⟨gw_757, rfl⟩⟩, fun w9 => ?_⟩
      show EE Γ ML_tilePart 12 [(0, .ref l0), (1, .int l1), (2, .ref l2)] [.float 0] w9 _
      refine ee_astore_nE (lv2 := [(3, .float 0), (0, .ref l0), (1, .int l1), (2, .ref l2)]) dL_tilePart_12 (Nat.le_of_ble_eq_true rfl) rfl ?_
      refine ee_iconst (v := (1 : Int32)) dL_tilePart_13 (by decide) ?_
      exact ee_iret rfl dL_tilePart_14
    · refine ⟨15, ⟨⟨by decide, by decide, by decide⟩, _, gw_742, Or.inr ⟨by decide +kernel, ⟨⟨by decide, by decide, by decide⟩, _, gw_881, Or.inl ⟨gw_889, rfl⟩⟩⟩⟩, fun w9 => ?_⟩
      show EE Γ ML_tilePart 15 [(0, .ref l0), (1, .int l1), (2, .ref l2)] [.float 0] w9 _
      refine ee_astore_nE (lv2 := [(3, .float 0), (0, .ref l0), (1, .int l1), (2, .ref l2)]) dL_tilePart_15 (Nat.le_of_ble_eq_true rfl) rfl ?_
      refine ee_iconst (v := (2 : Int32)) dL_tilePart_16 (by decide) ?_
      exact ee_iret rfl dL_tilePart_17
  · refine ee_kI (fun v4 => ?_)
    refine ee_i2l dL_tilePart_7 ?_
    refine ee_last dL_tilePart_8 (fun w8 _ => ?_)
    refine ee_goto (tgt := 18) dL_tilePart_9 (by decide) ?_
    refine ee_iconst (v := (0 : Int32)) dL_tilePart_18 (by decide) ?_
    exact ee_iret rfl dL_tilePart_19
def fL_packet (l0 : Nat) (l1 : Int32) (l2 : Nat) (w : PW) : PX := (p_obj w l0 0).bind fun _ => p_callX (fW_packet l0 l1 w) (p_kI fun v4 w4 => (p_astJ w4 l2 (0 : Int32) (Int32.toInt64 v4)).bind fun w8 => some (.inl (some (.int (0 : Int32))), w8)) [("java/lang/IndexOutOfBoundsException", fun (w9 : PW) => some (.inl (some (.int (1 : Int32))), w9)), ("java/lang/UnsupportedOperationException", fun (w9 : PW) => some (.inl (some (.int (2 : Int32))), w9))]
set_option maxRecDepth 20000 in
set_option maxHeartbeats 2000000 in
theorem t_fL_packet {Γ : PG} : ∀ (l0 : Nat) (l1 : Int32) (l2 : Nat) (w : PW), EE Γ ML_packet 0 (lv_args 0 [.ref l0, .int l1, .ref l2]) [] w (fL_packet l0 l1 l2 w) := by
  intro l0 l1 l2 w
  unfold fL_packet
  show EE Γ ML_packet 0 [(0, .ref l0), (1, .int l1), (2, .ref l2)] [] w _
  refine ee_aload_n 2 dL_packet_0 rfl ?_
  refine ee_iconst (v := (0 : Int32)) dL_packet_1 (by decide) ?_
  refine ee_aload_n 0 dL_packet_2 rfl ?_
  refine ee_iload_n 1 dL_packet_3 rfl ?_
  refine ee_bind (fun _ ho4 => ?_)
  refine ee_callVX (as := [.int l1]) (st := [.int (0 : Int32), .ref l2]) dL_packet_4 (t_fW_packet l0 l1 w) my_fW_packet.1 (Nat.le_of_ble_eq_true rfl) my_fW_packet.2 rfl cf_0.1 rfl (p_obj_eq.mp ho4) gw_998 gw_999 gw_1000 ⟨Nat.le_of_ble_eq_true rfl, Nat.le_of_ble_eq_true rfl⟩ (Nat.le_of_ble_eq_true rfl) gw_997 ?_ (fun rv4 w4 _ => ?_)
  · refine List.forall_mem_cons.mpr ⟨?_, List.forall_mem_cons.mpr ⟨?_, fun _ h => absurd h List.not_mem_nil⟩⟩
    · refine ⟨12, ⟨⟨by decide, by decide, by decide⟩, _, gw_742, Or.inl ⟨gw_757, rfl⟩⟩, fun w9 => ?_⟩
      show EE Γ ML_packet 12 [(0, .ref l0), (1, .int l1), (2, .ref l2)] [.float 0] w9 _
      refine ee_astore_nE (lv2 := [(3, .float 0), (0, .ref l0), (1, .int l1), (2, .ref l2)]) dL_packet_12 (Nat.le_of_ble_eq_true rfl) rfl ?_
      refine ee_iconst (v := (1 : Int32)) dL_packet_13 (by decide) ?_
      exact ee_iret rfl dL_packet_14
    · refine ⟨15, ⟨⟨by decide, by decide, by decide⟩, _, gw_742, Or.inr ⟨by decide +kernel, ⟨⟨by decide, by decide, by decide⟩, _, gw_881, Or.inl ⟨gw_889, rfl⟩⟩⟩⟩, fun w9 => ?_⟩
      show EE Γ ML_packet 15 [(0, .ref l0), (1, .int l1), (2, .ref l2)] [.float 0] w9 _
      refine ee_astore_nE (lv2 := [(3, .float 0), (0, .ref l0), (1, .int l1), (2, .ref l2)]) dL_packet_15 (Nat.le_of_ble_eq_true rfl) rfl ?_
      refine ee_iconst (v := (2 : Int32)) dL_packet_16 (by decide) ?_
      exact ee_iret rfl dL_packet_17
  · refine ee_kI (fun v4 => ?_)
    refine ee_i2l dL_packet_7 ?_
    refine ee_last dL_packet_8 (fun w8 _ => ?_)
    refine ee_goto (tgt := 18) dL_packet_9 (by decide) ?_
    refine ee_iconst (v := (0 : Int32)) dL_packet_18 (by decide) ?_
    exact ee_iret rfl dL_packet_19
def fL_byteOf (l0 : Nat) (l1 : Int32) (l2 : Int32) (l3 : Nat) (w : PW) : PX := (p_obj w l0 0).bind fun _ => p_callX (fW_byteOf l0 l1 l2 w) (p_kI fun v5 w5 => (p_astJ w5 l3 (0 : Int32) (Int32.toInt64 v5)).bind fun w9 => some (.inl (some (.int (0 : Int32))), w9)) [("java/lang/IndexOutOfBoundsException", fun (w9 : PW) => some (.inl (some (.int (1 : Int32))), w9)), ("java/lang/IllegalStateException", fun (w9 : PW) => some (.inl (some (.int (2 : Int32))), w9)), ("java/lang/IllegalArgumentException", fun (w9 : PW) => some (.inl (some (.int (3 : Int32))), w9)), ("java/lang/UnsupportedOperationException", fun (w9 : PW) => some (.inl (some (.int (4 : Int32))), w9))]
set_option maxRecDepth 20000 in
set_option maxHeartbeats 2000000 in
theorem t_fL_byteOf {Γ : PG} : ∀ (l0 : Nat) (l1 : Int32) (l2 : Int32) (l3 : Nat) (w : PW), EE Γ ML_byteOf 0 (lv_args 0 [.ref l0, .int l1, .int l2, .ref l3]) [] w (fL_byteOf l0 l1 l2 l3 w) := by
  intro l0 l1 l2 l3 w
  unfold fL_byteOf
  show EE Γ ML_byteOf 0 [(0, .ref l0), (1, .int l1), (2, .int l2), (3, .ref l3)] [] w _
  refine ee_aload_n 3 dL_byteOf_0 rfl ?_
  refine ee_iconst (v := (0 : Int32)) dL_byteOf_1 (by decide) ?_
  refine ee_aload_n 0 dL_byteOf_2 rfl ?_
  refine ee_iload_n 1 dL_byteOf_3 rfl ?_
  refine ee_iload_n 2 dL_byteOf_4 rfl ?_
  refine ee_bind (fun _ ho5 => ?_)
  refine ee_callVX (as := [.int l1, .int l2]) (st := [.int (0 : Int32), .ref l3]) dL_byteOf_5 (t_fW_byteOf l0 l1 l2 w) my_fW_byteOf.1 (Nat.le_of_ble_eq_true rfl) my_fW_byteOf.2 rfl cf_0.1 rfl (p_obj_eq.mp ho5) gw_1007 gw_1008 gw_1009 ⟨Nat.le_of_ble_eq_true rfl, Nat.le_of_ble_eq_true rfl⟩ (Nat.le_of_ble_eq_true rfl) gw_1006 ?_ (fun rv5 w5 _ => ?_)
  · refine List.forall_mem_cons.mpr ⟨?_, List.forall_mem_cons.mpr ⟨?_, List.forall_mem_cons.mpr ⟨?_, List.forall_mem_cons.mpr ⟨?_, fun _ h => absurd h List.not_mem_nil⟩⟩⟩⟩
    · refine ⟨13, ⟨⟨by decide, by decide, by decide⟩, _, gw_742, Or.inl ⟨gw_757, rfl⟩⟩, fun w9 => ?_⟩
      show EE Γ ML_byteOf 13 [(0, .ref l0), (1, .int l1), (2, .int l2), (3, .ref l3)] [.float 0] w9 _
      refine ee_astoreE (lv2 := [(4, .float 0), (0, .ref l0), (1, .int l1), (2, .int l2), (3, .ref l3)]) dL_byteOf_13 (Nat.le_of_ble_eq_true rfl) rfl ?_
      refine ee_iconst (v := (1 : Int32)) dL_byteOf_15 (by decide) ?_
      exact ee_iret rfl dL_byteOf_16
    · refine ⟨17, ⟨⟨by decide, by decide, by decide⟩, _, gw_742, Or.inr ⟨by decide +kernel, ⟨⟨by decide, by decide, by decide⟩, _, gw_743, Or.inl ⟨gw_833, rfl⟩⟩⟩⟩, fun w9 => ?_⟩
      show EE Γ ML_byteOf 17 [(0, .ref l0), (1, .int l1), (2, .int l2), (3, .ref l3)] [.float 0] w9 _
      refine ee_astoreE (lv2 := [(4, .float 0), (0, .ref l0), (1, .int l1), (2, .int l2), (3, .ref l3)]) dL_byteOf_17 (Nat.le_of_ble_eq_true rfl) rfl ?_
      refine ee_iconst (v := (2 : Int32)) dL_byteOf_19 (by decide) ?_
      exact ee_iret rfl dL_byteOf_20
    · refine ⟨21, ⟨⟨by decide, by decide, by decide⟩, _, gw_742, Or.inr ⟨by decide +kernel, ⟨⟨by decide, by decide, by decide⟩, _, gw_743, Or.inr ⟨by decide +kernel, ⟨⟨by decide, by decide, by decide⟩, _, gw_744, Or.inl ⟨gw_854, rfl⟩⟩⟩⟩⟩⟩, fun w9 => ?_⟩
      show EE Γ ML_byteOf 21 [(0, .ref l0), (1, .int l1), (2, .int l2), (3, .ref l3)] [.float 0] w9 _
      refine ee_astoreE (lv2 := [(4, .float 0), (0, .ref l0), (1, .int l1), (2, .int l2), (3, .ref l3)]) dL_byteOf_21 (Nat.le_of_ble_eq_true rfl) rfl ?_
      refine ee_iconst (v := (3 : Int32)) dL_byteOf_23 (by decide) ?_
      exact ee_iret rfl dL_byteOf_24
    · refine ⟨25, ⟨⟨by decide, by decide, by decide⟩, _, gw_742, Or.inr ⟨by decide +kernel, ⟨⟨by decide, by decide, by decide⟩, _, gw_743, Or.inr ⟨by decide +kernel, ⟨⟨by decide, by decide, by decide⟩, _, gw_744, Or.inr ⟨by decide +kernel, ⟨⟨by decide, by decide, by decide⟩, _, gw_881, Or.inl ⟨gw_889, rfl⟩⟩⟩⟩⟩⟩⟩⟩, fun w9 => ?_⟩
      show EE Γ ML_byteOf 25 [(0, .ref l0), (1, .int l1), (2, .int l2), (3, .ref l3)] [.float 0] w9 _
      refine ee_astoreE (lv2 := [(4, .float 0), (0, .ref l0), (1, .int l1), (2, .int l2), (3, .ref l3)]) dL_byteOf_25 (Nat.le_of_ble_eq_true rfl) rfl ?_
      refine ee_iconst (v := (4 : Int32)) dL_byteOf_27 (by decide) ?_
      exact ee_iret rfl dL_byteOf_28
  · refine ee_kI (fun v5 => ?_)
    refine ee_i2l dL_byteOf_8 ?_
    refine ee_last dL_byteOf_9 (fun w9 _ => ?_)
    refine ee_goto (tgt := 29) dL_byteOf_10 (by decide) ?_
    refine ee_iconst (v := (0 : Int32)) dL_byteOf_29 (by decide) ?_
    exact ee_iret rfl dL_byteOf_30
def fL_box (l0 : Nat) (l1 : Int32) (l2 : Int32) (l3 : Nat) (w : PW) : PX := (p_obj w l0 0).bind fun _ => p_callX (fW_box l0 l1 l2 w) (p_kI fun v5 w5 => (p_astJ w5 l3 (0 : Int32) (Int32.toInt64 v5)).bind fun w9 => some (.inl (some (.int (0 : Int32))), w9)) [("java/lang/IllegalArgumentException", fun (w9 : PW) => some (.inl (some (.int (1 : Int32))), w9)), ("java/lang/UnsupportedOperationException", fun (w9 : PW) => some (.inl (some (.int (2 : Int32))), w9))]
set_option maxRecDepth 20000 in
set_option maxHeartbeats 2000000 in
theorem t_fL_box {Γ : PG} : ∀ (l0 : Nat) (l1 : Int32) (l2 : Int32) (l3 : Nat) (w : PW), EE Γ ML_box 0 (lv_args 0 [.ref l0, .int l1, .int l2, .ref l3]) [] w (fL_box l0 l1 l2 l3 w) := by
  intro l0 l1 l2 l3 w
  unfold fL_box
  show EE Γ ML_box 0 [(0, .ref l0), (1, .int l1), (2, .int l2), (3, .ref l3)] [] w _
  refine ee_aload_n 3 dL_box_0 rfl ?_
  refine ee_iconst (v := (0 : Int32)) dL_box_1 (by decide) ?_
  refine ee_aload_n 0 dL_box_2 rfl ?_
  refine ee_iload_n 1 dL_box_3 rfl ?_
  refine ee_iload_n 2 dL_box_4 rfl ?_
  refine ee_bind (fun _ ho5 => ?_)
  refine ee_callVX (as := [.int l1, .int l2]) (st := [.int (0 : Int32), .ref l3]) dL_box_5 (t_fW_box l0 l1 l2 w) my_fW_box.1 (Nat.le_of_ble_eq_true rfl) my_fW_box.2 rfl cf_0.1 rfl (p_obj_eq.mp ho5) gw_1025 gw_1026 gw_1027 ⟨Nat.le_of_ble_eq_true rfl, Nat.le_of_ble_eq_true rfl⟩ (Nat.le_of_ble_eq_true rfl) gw_1024 ?_ (fun rv5 w5 _ => ?_)
  · refine List.forall_mem_cons.mpr ⟨?_, List.forall_mem_cons.mpr ⟨?_, fun _ h => absurd h List.not_mem_nil⟩⟩
    · refine ⟨13, ⟨⟨by decide, by decide, by decide⟩, _, gw_744, Or.inl ⟨gw_854, rfl⟩⟩, fun w9 => ?_⟩
      show EE Γ ML_box 13 [(0, .ref l0), (1, .int l1), (2, .int l2), (3, .ref l3)] [.float 0] w9 _
      refine ee_astoreE (lv2 := [(4, .float 0), (0, .ref l0), (1, .int l1), (2, .int l2), (3, .ref l3)]) dL_box_13 (Nat.le_of_ble_eq_true rfl) rfl ?_
      refine ee_iconst (v := (1 : Int32)) dL_box_15 (by decide) ?_
      exact ee_iret rfl dL_box_16
    · refine ⟨17, ⟨⟨by decide, by decide, by decide⟩, _, gw_744, Or.inr ⟨by decide +kernel, ⟨⟨by decide, by decide, by decide⟩, _, gw_881, Or.inl ⟨gw_889, rfl⟩⟩⟩⟩, fun w9 => ?_⟩
      show EE Γ ML_box 17 [(0, .ref l0), (1, .int l1), (2, .int l2), (3, .ref l3)] [.float 0] w9 _
      refine ee_astoreE (lv2 := [(4, .float 0), (0, .ref l0), (1, .int l1), (2, .int l2), (3, .ref l3)]) dL_box_17 (Nat.le_of_ble_eq_true rfl) rfl ?_
      refine ee_iconst (v := (2 : Int32)) dL_box_19 (by decide) ?_
      exact ee_iret rfl dL_box_20
  · refine ee_kI (fun v5 => ?_)
    refine ee_i2l dL_box_8 ?_
    refine ee_last dL_box_9 (fun w9 _ => ?_)
    refine ee_goto (tgt := 21) dL_box_10 (by decide) ?_
    refine ee_iconst (v := (0 : Int32)) dL_box_21 (by decide) ?_
    exact ee_iret rfl dL_box_22
def fL_boxByte (l0 : Nat) (l1 : Int32) (l2 : Int32) (l3 : Nat) (w : PW) : PX := (p_obj w l0 0).bind fun _ => p_callX (fW_boxByte l0 l1 l2 w) (p_kI fun v5 w5 => (p_astJ w5 l3 (0 : Int32) (Int32.toInt64 v5)).bind fun w9 => some (.inl (some (.int (0 : Int32))), w9)) [("java/lang/IndexOutOfBoundsException", fun (w9 : PW) => some (.inl (some (.int (1 : Int32))), w9)), ("java/lang/IllegalArgumentException", fun (w9 : PW) => some (.inl (some (.int (2 : Int32))), w9)), ("java/lang/UnsupportedOperationException", fun (w9 : PW) => some (.inl (some (.int (3 : Int32))), w9))]
set_option maxRecDepth 20000 in
set_option maxHeartbeats 2000000 in
theorem t_fL_boxByte {Γ : PG} : ∀ (l0 : Nat) (l1 : Int32) (l2 : Int32) (l3 : Nat) (w : PW), EE Γ ML_boxByte 0 (lv_args 0 [.ref l0, .int l1, .int l2, .ref l3]) [] w (fL_boxByte l0 l1 l2 l3 w) := by
  intro l0 l1 l2 l3 w
  unfold fL_boxByte
  show EE Γ ML_boxByte 0 [(0, .ref l0), (1, .int l1), (2, .int l2), (3, .ref l3)] [] w _
  refine ee_aload_n 3 dL_boxByte_0 rfl ?_
  refine ee_iconst (v := (0 : Int32)) dL_boxByte_1 (by decide) ?_
  refine ee_aload_n 0 dL_boxByte_2 rfl ?_
  refine ee_iload_n 1 dL_boxByte_3 rfl ?_
  refine ee_iload_n 2 dL_boxByte_4 rfl ?_
  refine ee_bind (fun _ ho5 => ?_)
  refine ee_callVX (as := [.int l1, .int l2]) (st := [.int (0 : Int32), .ref l3]) dL_boxByte_5 (t_fW_boxByte l0 l1 l2 w) my_fW_boxByte.1 (Nat.le_of_ble_eq_true rfl) my_fW_boxByte.2 rfl cf_0.1 rfl (p_obj_eq.mp ho5) gw_1067 gw_1068 gw_1069 ⟨Nat.le_of_ble_eq_true rfl, Nat.le_of_ble_eq_true rfl⟩ (Nat.le_of_ble_eq_true rfl) gw_1066 ?_ (fun rv5 w5 _ => ?_)
  · refine List.forall_mem_cons.mpr ⟨?_, List.forall_mem_cons.mpr ⟨?_, List.forall_mem_cons.mpr ⟨?_, fun _ h => absurd h List.not_mem_nil⟩⟩⟩
    · refine ⟨13, ⟨⟨by decide, by decide, by decide⟩, _, gw_742, Or.inl ⟨gw_757, rfl⟩⟩, fun w9 => ?_⟩
      show EE Γ ML_boxByte 13 [(0, .ref l0), (1, .int l1), (2, .int l2), (3, .ref l3)] [.float 0] w9 _
      refine ee_astoreE (lv2 := [(4, .float 0), (0, .ref l0), (1, .int l1), (2, .int l2), (3, .ref l3)]) dL_boxByte_13 (Nat.le_of_ble_eq_true rfl) rfl ?_
      refine ee_iconst (v := (1 : Int32)) dL_boxByte_15 (by decide) ?_
      exact ee_iret rfl dL_boxByte_16
    · refine ⟨17, ⟨⟨by decide, by decide, by decide⟩, _, gw_742, Or.inr ⟨by decide +kernel, ⟨⟨by decide, by decide, by decide⟩, _, gw_744, Or.inl ⟨gw_854, rfl⟩⟩⟩⟩, fun w9 => ?_⟩
      show EE Γ ML_boxByte 17 [(0, .ref l0), (1, .int l1), (2, .int l2), (3, .ref l3)] [.float 0] w9 _
      refine ee_astoreE (lv2 := [(4, .float 0), (0, .ref l0), (1, .int l1), (2, .int l2), (3, .ref l3)]) dL_boxByte_17 (Nat.le_of_ble_eq_true rfl) rfl ?_
      refine ee_iconst (v := (2 : Int32)) dL_boxByte_19 (by decide) ?_
      exact ee_iret rfl dL_boxByte_20
    · refine ⟨21, ⟨⟨by decide, by decide, by decide⟩, _, gw_742, Or.inr ⟨by decide +kernel, ⟨⟨by decide, by decide, by decide⟩, _, gw_744, Or.inr ⟨by decide +kernel, ⟨⟨by decide, by decide, by decide⟩, _, gw_881, Or.inl ⟨gw_889, rfl⟩⟩⟩⟩⟩⟩, fun w9 => ?_⟩
      show EE Γ ML_boxByte 21 [(0, .ref l0), (1, .int l1), (2, .int l2), (3, .ref l3)] [.float 0] w9 _
      refine ee_astoreE (lv2 := [(4, .float 0), (0, .ref l0), (1, .int l1), (2, .int l2), (3, .ref l3)]) dL_boxByte_21 (Nat.le_of_ble_eq_true rfl) rfl ?_
      refine ee_iconst (v := (3 : Int32)) dL_boxByte_23 (by decide) ?_
      exact ee_iret rfl dL_boxByte_24
  · refine ee_kI (fun v5 => ?_)
    refine ee_i2l dL_boxByte_8 ?_
    refine ee_last dL_boxByte_9 (fun w9 _ => ?_)
    refine ee_goto (tgt := 25) dL_boxByte_10 (by decide) ?_
    refine ee_iconst (v := (0 : Int32)) dL_boxByte_25 (by decide) ?_
    exact ee_iret rfl dL_boxByte_26
def fL_byteAt (l0 : Nat) (l1 : Int32) (l2 : Nat) (w : PW) : PX := (p_obj w l0 0).bind fun _ => p_callX (fW_byteAt l0 l1 w) (p_kI fun v4 w4 => (p_astJ w4 l2 (0 : Int32) (Int32.toInt64 v4)).bind fun w8 => some (.inl (some (.int (0 : Int32))), w8)) [("java/lang/IndexOutOfBoundsException", fun (w9 : PW) => some (.inl (some (.int (1 : Int32))), w9))]
set_option maxRecDepth 20000 in
set_option maxHeartbeats 2000000 in
theorem t_fL_byteAt {Γ : PG} : ∀ (l0 : Nat) (l1 : Int32) (l2 : Nat) (w : PW), EE Γ ML_byteAt 0 (lv_args 0 [.ref l0, .int l1, .ref l2]) [] w (fL_byteAt l0 l1 l2 w) := by
  intro l0 l1 l2 w
  unfold fL_byteAt
  show EE Γ ML_byteAt 0 [(0, .ref l0), (1, .int l1), (2, .ref l2)] [] w _
  refine ee_aload_n 2 dL_byteAt_0 rfl ?_
  refine ee_iconst (v := (0 : Int32)) dL_byteAt_1 (by decide) ?_
  refine ee_aload_n 0 dL_byteAt_2 rfl ?_
  refine ee_iload_n 1 dL_byteAt_3 rfl ?_
  refine ee_bind (fun _ ho4 => ?_)
  refine ee_callVX (as := [.int l1]) (st := [.int (0 : Int32), .ref l2]) dL_byteAt_4 (t_fW_byteAt l0 l1 w) my_fW_byteAt.1 (Nat.le_of_ble_eq_true rfl) my_fW_byteAt.2 rfl cf_0.1 rfl (p_obj_eq.mp ho4) gw_1076 gw_1077 gw_1078 ⟨Nat.le_of_ble_eq_true rfl, Nat.le_of_ble_eq_true rfl⟩ (Nat.le_of_ble_eq_true rfl) gw_1075 ?_ (fun rv4 w4 _ => ?_)
  · refine List.forall_mem_cons.mpr ⟨?_, fun _ h => absurd h List.not_mem_nil⟩
    · refine ⟨12, ⟨⟨by decide, by decide, by decide⟩, _, gw_742, Or.inl ⟨gw_757, rfl⟩⟩, fun w9 => ?_⟩
      show EE Γ ML_byteAt 12 [(0, .ref l0), (1, .int l1), (2, .ref l2)] [.float 0] w9 _
      refine ee_astore_nE (lv2 := [(3, .float 0), (0, .ref l0), (1, .int l1), (2, .ref l2)]) dL_byteAt_12 (Nat.le_of_ble_eq_true rfl) rfl ?_
      refine ee_iconst (v := (1 : Int32)) dL_byteAt_13 (by decide) ?_
      exact ee_iret rfl dL_byteAt_14
  · refine ee_kI (fun v4 => ?_)
    refine ee_i2l dL_byteAt_7 ?_
    refine ee_last dL_byteAt_8 (fun w8 _ => ?_)
    refine ee_goto (tgt := 15) dL_byteAt_9 (by decide) ?_
    refine ee_iconst (v := (0 : Int32)) dL_byteAt_15 (by decide) ?_
    exact ee_iret rfl dL_byteAt_16
def fL_feed (l0 : Nat) (l1 : Int32) (l2 : Nat) (w : PW) : PX := (p_obj w l0 0).bind fun _ => p_callX (fW_feed l0 l1 w) (p_kI fun v4 w4 => (p_astJ w4 l2 (0 : Int32) (Int32.toInt64 v4)).bind fun w8 => some (.inl (some (.int (0 : Int32))), w8)) [("java/lang/IllegalArgumentException", fun (w9 : PW) => some (.inl (some (.int (1 : Int32))), w9)), ("java/lang/UnsupportedOperationException", fun (w9 : PW) => some (.inl (some (.int (2 : Int32))), w9))]
set_option maxRecDepth 20000 in
set_option maxHeartbeats 2000000 in
theorem t_fL_feed {Γ : PG} : ∀ (l0 : Nat) (l1 : Int32) (l2 : Nat) (w : PW), EE Γ ML_feed 0 (lv_args 0 [.ref l0, .int l1, .ref l2]) [] w (fL_feed l0 l1 l2 w) := by
  intro l0 l1 l2 w
  unfold fL_feed
  show EE Γ ML_feed 0 [(0, .ref l0), (1, .int l1), (2, .ref l2)] [] w _
  refine ee_aload_n 2 dL_feed_0 rfl ?_
  refine ee_iconst (v := (0 : Int32)) dL_feed_1 (by decide) ?_
  refine ee_aload_n 0 dL_feed_2 rfl ?_
  refine ee_iload_n 1 dL_feed_3 rfl ?_
  refine ee_bind (fun _ ho4 => ?_)
  refine ee_callVX (as := [.int l1]) (st := [.int (0 : Int32), .ref l2]) dL_feed_4 (t_fW_feed l0 l1 w) my_fW_feed.1 (Nat.le_of_ble_eq_true rfl) my_fW_feed.2 rfl cf_0.1 rfl (p_obj_eq.mp ho4) gw_1085 gw_1086 gw_1087 ⟨Nat.le_of_ble_eq_true rfl, Nat.le_of_ble_eq_true rfl⟩ (Nat.le_of_ble_eq_true rfl) gw_1084 ?_ (fun rv4 w4 _ => ?_)
  · refine List.forall_mem_cons.mpr ⟨?_, List.forall_mem_cons.mpr ⟨?_, fun _ h => absurd h List.not_mem_nil⟩⟩
    · refine ⟨12, ⟨⟨by decide, by decide, by decide⟩, _, gw_744, Or.inl ⟨gw_854, rfl⟩⟩, fun w9 => ?_⟩
      show EE Γ ML_feed 12 [(0, .ref l0), (1, .int l1), (2, .ref l2)] [.float 0] w9 _
      refine ee_astore_nE (lv2 := [(3, .float 0), (0, .ref l0), (1, .int l1), (2, .ref l2)]) dL_feed_12 (Nat.le_of_ble_eq_true rfl) rfl ?_
      refine ee_iconst (v := (1 : Int32)) dL_feed_13 (by decide) ?_
      exact ee_iret rfl dL_feed_14
    · refine ⟨15, ⟨⟨by decide, by decide, by decide⟩, _, gw_744, Or.inr ⟨by decide +kernel, ⟨⟨by decide, by decide, by decide⟩, _, gw_881, Or.inl ⟨gw_889, rfl⟩⟩⟩⟩, fun w9 => ?_⟩
      show EE Γ ML_feed 15 [(0, .ref l0), (1, .int l1), (2, .ref l2)] [.float 0] w9 _
      refine ee_astore_nE (lv2 := [(3, .float 0), (0, .ref l0), (1, .int l1), (2, .ref l2)]) dL_feed_15 (Nat.le_of_ble_eq_true rfl) rfl ?_
      refine ee_iconst (v := (2 : Int32)) dL_feed_16 (by decide) ?_
      exact ee_iret rfl dL_feed_17
  · refine ee_kI (fun v4 => ?_)
    refine ee_i2l dL_feed_7 ?_
    refine ee_last dL_feed_8 (fun w8 _ => ?_)
    refine ee_goto (tgt := 18) dL_feed_9 (by decide) ?_
    refine ee_iconst (v := (0 : Int32)) dL_feed_18 (by decide) ?_
    exact ee_iret rfl dL_feed_19
def fL_pass (l0 : Nat) (l1 : Int32) (l2 : Int32) (l3 : Nat) (w : PW) : PX := (p_obj w l0 0).bind fun _ => p_callX (fW_pass l0 l1 l2 w) (p_kI fun v5 w5 => (p_astJ w5 l3 (0 : Int32) (Int32.toInt64 v5)).bind fun w9 => some (.inl (some (.int (0 : Int32))), w9)) [("java/lang/IndexOutOfBoundsException", fun (w9 : PW) => some (.inl (some (.int (1 : Int32))), w9)), ("java/lang/IllegalArgumentException", fun (w9 : PW) => some (.inl (some (.int (2 : Int32))), w9)), ("java/lang/UnsupportedOperationException", fun (w9 : PW) => some (.inl (some (.int (3 : Int32))), w9))]
set_option maxRecDepth 20000 in
set_option maxHeartbeats 2000000 in
theorem t_fL_pass {Γ : PG} : ∀ (l0 : Nat) (l1 : Int32) (l2 : Int32) (l3 : Nat) (w : PW), EE Γ ML_pass 0 (lv_args 0 [.ref l0, .int l1, .int l2, .ref l3]) [] w (fL_pass l0 l1 l2 l3 w) := by
  intro l0 l1 l2 l3 w
  unfold fL_pass
  show EE Γ ML_pass 0 [(0, .ref l0), (1, .int l1), (2, .int l2), (3, .ref l3)] [] w _
  refine ee_aload_n 3 dL_pass_0 rfl ?_
  refine ee_iconst (v := (0 : Int32)) dL_pass_1 (by decide) ?_
  refine ee_aload_n 0 dL_pass_2 rfl ?_
  refine ee_iload_n 1 dL_pass_3 rfl ?_
  refine ee_iload_n 2 dL_pass_4 rfl ?_
  refine ee_bind (fun _ ho5 => ?_)
  refine ee_callVX (as := [.int l1, .int l2]) (st := [.int (0 : Int32), .ref l3]) dL_pass_5 (t_fW_pass l0 l1 l2 w) my_fW_pass.1 (Nat.le_of_ble_eq_true rfl) my_fW_pass.2 rfl cf_0.1 rfl (p_obj_eq.mp ho5) gw_1092 gw_1093 gw_1094 ⟨Nat.le_of_ble_eq_true rfl, Nat.le_of_ble_eq_true rfl⟩ (Nat.le_of_ble_eq_true rfl) gw_1091 ?_ (fun rv5 w5 _ => ?_)
  · refine List.forall_mem_cons.mpr ⟨?_, List.forall_mem_cons.mpr ⟨?_, List.forall_mem_cons.mpr ⟨?_, fun _ h => absurd h List.not_mem_nil⟩⟩⟩
    · refine ⟨13, ⟨⟨by decide, by decide, by decide⟩, _, gw_742, Or.inl ⟨gw_757, rfl⟩⟩, fun w9 => ?_⟩
      show EE Γ ML_pass 13 [(0, .ref l0), (1, .int l1), (2, .int l2), (3, .ref l3)] [.float 0] w9 _
      refine ee_astoreE (lv2 := [(4, .float 0), (0, .ref l0), (1, .int l1), (2, .int l2), (3, .ref l3)]) dL_pass_13 (Nat.le_of_ble_eq_true rfl) rfl ?_
      refine ee_iconst (v := (1 : Int32)) dL_pass_15 (by decide) ?_
      exact ee_iret rfl dL_pass_16
    · refine ⟨17, ⟨⟨by decide, by decide, by decide⟩, _, gw_742, Or.inr ⟨by decide +kernel, ⟨⟨by decide, by decide, by decide⟩, _, gw_744, Or.inl ⟨gw_854, rfl⟩⟩⟩⟩, fun w9 => ?_⟩
      show EE Γ ML_pass 17 [(0, .ref l0), (1, .int l1), (2, .int l2), (3, .ref l3)] [.float 0] w9 _
      refine ee_astoreE (lv2 := [(4, .float 0), (0, .ref l0), (1, .int l1), (2, .int l2), (3, .ref l3)]) dL_pass_17 (Nat.le_of_ble_eq_true rfl) rfl ?_
      refine ee_iconst (v := (2 : Int32)) dL_pass_19 (by decide) ?_
      exact ee_iret rfl dL_pass_20
    · refine ⟨21, ⟨⟨by decide, by decide, by decide⟩, _, gw_742, Or.inr ⟨by decide +kernel, ⟨⟨by decide, by decide, by decide⟩, _, gw_744, Or.inr ⟨by decide +kernel, ⟨⟨by decide, by decide, by decide⟩, _, gw_881, Or.inl ⟨gw_889, rfl⟩⟩⟩⟩⟩⟩, fun w9 => ?_⟩
      show EE Γ ML_pass 21 [(0, .ref l0), (1, .int l1), (2, .int l2), (3, .ref l3)] [.float 0] w9 _
      refine ee_astoreE (lv2 := [(4, .float 0), (0, .ref l0), (1, .int l1), (2, .int l2), (3, .ref l3)]) dL_pass_21 (Nat.le_of_ble_eq_true rfl) rfl ?_
      refine ee_iconst (v := (3 : Int32)) dL_pass_23 (by decide) ?_
      exact ee_iret rfl dL_pass_24
  · refine ee_kI (fun v5 => ?_)
    refine ee_i2l dL_pass_8 ?_
    refine ee_last dL_pass_9 (fun w9 _ => ?_)
    refine ee_goto (tgt := 25) dL_pass_10 (by decide) ?_
    refine ee_iconst (v := (0 : Int32)) dL_pass_25 (by decide) ?_
    exact ee_iret rfl dL_pass_26
def fL_alter (l0 : Nat) (l1 : Int32) (l2 : Int32) (l3 : Nat) (w : PW) : PX := (p_obj w l0 0).bind fun _ => p_callX (fW_alter l0 l1 l2 w) (p_kI fun v5 w5 => (p_astJ w5 l3 (0 : Int32) (Int32.toInt64 v5)).bind fun w9 => some (.inl (some (.int (0 : Int32))), w9)) [("java/lang/IndexOutOfBoundsException", fun (w9 : PW) => some (.inl (some (.int (1 : Int32))), w9)), ("java/lang/IllegalArgumentException", fun (w9 : PW) => some (.inl (some (.int (2 : Int32))), w9))]
set_option maxRecDepth 20000 in
set_option maxHeartbeats 2000000 in
theorem t_fL_alter {Γ : PG} : ∀ (l0 : Nat) (l1 : Int32) (l2 : Int32) (l3 : Nat) (w : PW), EE Γ ML_alter 0 (lv_args 0 [.ref l0, .int l1, .int l2, .ref l3]) [] w (fL_alter l0 l1 l2 l3 w) := by
  intro l0 l1 l2 l3 w
  unfold fL_alter
  show EE Γ ML_alter 0 [(0, .ref l0), (1, .int l1), (2, .int l2), (3, .ref l3)] [] w _
  refine ee_aload_n 3 dL_alter_0 rfl ?_
  refine ee_iconst (v := (0 : Int32)) dL_alter_1 (by decide) ?_
  refine ee_aload_n 0 dL_alter_2 rfl ?_
  refine ee_iload_n 1 dL_alter_3 rfl ?_
  refine ee_iload_n 2 dL_alter_4 rfl ?_
  refine ee_bind (fun _ ho5 => ?_)
  refine ee_callVX (as := [.int l1, .int l2]) (st := [.int (0 : Int32), .ref l3]) dL_alter_5 (t_fW_alter l0 l1 l2 w) my_fW_alter.1 (Nat.le_of_ble_eq_true rfl) my_fW_alter.2 rfl cf_0.1 rfl (p_obj_eq.mp ho5) gw_1101 gw_1102 gw_1103 ⟨Nat.le_of_ble_eq_true rfl, Nat.le_of_ble_eq_true rfl⟩ (Nat.le_of_ble_eq_true rfl) gw_1100 ?_ (fun rv5 w5 _ => ?_)
  · refine List.forall_mem_cons.mpr ⟨?_, List.forall_mem_cons.mpr ⟨?_, fun _ h => absurd h List.not_mem_nil⟩⟩
    · refine ⟨13, ⟨⟨by decide, by decide, by decide⟩, _, gw_742, Or.inl ⟨gw_757, rfl⟩⟩, fun w9 => ?_⟩
      show EE Γ ML_alter 13 [(0, .ref l0), (1, .int l1), (2, .int l2), (3, .ref l3)] [.float 0] w9 _
      refine ee_astoreE (lv2 := [(4, .float 0), (0, .ref l0), (1, .int l1), (2, .int l2), (3, .ref l3)]) dL_alter_13 (Nat.le_of_ble_eq_true rfl) rfl ?_
      refine ee_iconst (v := (1 : Int32)) dL_alter_15 (by decide) ?_
      exact ee_iret rfl dL_alter_16
    · refine ⟨17, ⟨⟨by decide, by decide, by decide⟩, _, gw_742, Or.inr ⟨by decide +kernel, ⟨⟨by decide, by decide, by decide⟩, _, gw_744, Or.inl ⟨gw_854, rfl⟩⟩⟩⟩, fun w9 => ?_⟩
      show EE Γ ML_alter 17 [(0, .ref l0), (1, .int l1), (2, .int l2), (3, .ref l3)] [.float 0] w9 _
      refine ee_astoreE (lv2 := [(4, .float 0), (0, .ref l0), (1, .int l1), (2, .int l2), (3, .ref l3)]) dL_alter_17 (Nat.le_of_ble_eq_true rfl) rfl ?_
      refine ee_iconst (v := (2 : Int32)) dL_alter_19 (by decide) ?_
      exact ee_iret rfl dL_alter_20
  · refine ee_kI (fun v5 => ?_)
    refine ee_i2l dL_alter_8 ?_
    refine ee_last dL_alter_9 (fun w9 _ => ?_)
    refine ee_goto (tgt := 21) dL_alter_10 (by decide) ?_
    refine ee_iconst (v := (0 : Int32)) dL_alter_21 (by decide) ?_
    exact ee_iret rfl dL_alter_22
def fL_cut (l0 : Nat) (l1 : Int32) (l2 : Nat) (w : PW) : PX := (p_obj w l0 0).bind fun _ => p_callX (fW_cut l0 l1 w) (p_kI fun v4 w4 => (p_astJ w4 l2 (0 : Int32) (Int32.toInt64 v4)).bind fun w8 => some (.inl (some (.int (0 : Int32))), w8)) [("java/lang/IllegalArgumentException", fun (w9 : PW) => some (.inl (some (.int (1 : Int32))), w9))]
set_option maxRecDepth 20000 in
set_option maxHeartbeats 2000000 in
theorem t_fL_cut {Γ : PG} : ∀ (l0 : Nat) (l1 : Int32) (l2 : Nat) (w : PW), EE Γ ML_cut 0 (lv_args 0 [.ref l0, .int l1, .ref l2]) [] w (fL_cut l0 l1 l2 w) := by
  intro l0 l1 l2 w
  unfold fL_cut
  show EE Γ ML_cut 0 [(0, .ref l0), (1, .int l1), (2, .ref l2)] [] w _
  refine ee_aload_n 2 dL_cut_0 rfl ?_
  refine ee_iconst (v := (0 : Int32)) dL_cut_1 (by decide) ?_
  refine ee_aload_n 0 dL_cut_2 rfl ?_
  refine ee_iload_n 1 dL_cut_3 rfl ?_
  refine ee_bind (fun _ ho4 => ?_)
  refine ee_callVX (as := [.int l1]) (st := [.int (0 : Int32), .ref l2]) dL_cut_4 (t_fW_cut l0 l1 w) my_fW_cut.1 (Nat.le_of_ble_eq_true rfl) my_fW_cut.2 rfl cf_0.1 rfl (p_obj_eq.mp ho4) gw_1109 gw_1110 gw_1111 ⟨Nat.le_of_ble_eq_true rfl, Nat.le_of_ble_eq_true rfl⟩ (Nat.le_of_ble_eq_true rfl) gw_1108 ?_ (fun rv4 w4 _ => ?_)
  · refine List.forall_mem_cons.mpr ⟨?_, fun _ h => absurd h List.not_mem_nil⟩
    · refine ⟨12, ⟨⟨by decide, by decide, by decide⟩, _, gw_744, Or.inl ⟨gw_854, rfl⟩⟩, fun w9 => ?_⟩
      show EE Γ ML_cut 12 [(0, .ref l0), (1, .int l1), (2, .ref l2)] [.float 0] w9 _
      refine ee_astore_nE (lv2 := [(3, .float 0), (0, .ref l0), (1, .int l1), (2, .ref l2)]) dL_cut_12 (Nat.le_of_ble_eq_true rfl) rfl ?_
      refine ee_iconst (v := (1 : Int32)) dL_cut_13 (by decide) ?_
      exact ee_iret rfl dL_cut_14
  · refine ee_kI (fun v4 => ?_)
    refine ee_i2l dL_cut_7 ?_
    refine ee_last dL_cut_8 (fun w8 _ => ?_)
    refine ee_goto (tgt := 15) dL_cut_9 (by decide) ?_
    refine ee_iconst (v := (0 : Int32)) dL_cut_15 (by decide) ?_
    exact ee_iret rfl dL_cut_16
def fL_at (l0 : Nat) (l1 : Int32) (l2 : Int32) (l3 : Int32) (l4 : Nat) (w : PW) : PX := (p_obj w l0 0).bind fun _ => p_callX (fW_at l0 l1 l2 l3 w) (p_kI fun v7 w7 => (p_astJ w7 l4 (0 : Int32) (Int32.toInt64 v7)).bind fun w11 => some (.inl (some (.int (0 : Int32))), w11)) [("java/lang/IllegalStateException", fun (w9 : PW) => some (.inl (some (.int (1 : Int32))), w9)), ("java/lang/IndexOutOfBoundsException", fun (w9 : PW) => some (.inl (some (.int (2 : Int32))), w9))]
set_option maxRecDepth 20000 in
set_option maxHeartbeats 2000000 in
theorem t_fL_at {Γ : PG} : ∀ (l0 : Nat) (l1 : Int32) (l2 : Int32) (l3 : Int32) (l4 : Nat) (w : PW), EE Γ ML_at 0 (lv_args 0 [.ref l0, .int l1, .int l2, .int l3, .ref l4]) [] w (fL_at l0 l1 l2 l3 l4 w) := by
  intro l0 l1 l2 l3 l4 w
  unfold fL_at
  show EE Γ ML_at 0 [(0, .ref l0), (1, .int l1), (2, .int l2), (3, .int l3), (4, .ref l4)] [] w _
  refine ee_aload 4 dL_at_0 rfl ?_
  refine ee_iconst (v := (0 : Int32)) dL_at_2 (by decide) ?_
  refine ee_aload_n 0 dL_at_3 rfl ?_
  refine ee_iload_n 1 dL_at_4 rfl ?_
  refine ee_iload_n 2 dL_at_5 rfl ?_
  refine ee_iload_n 3 dL_at_6 rfl ?_
  refine ee_bind (fun _ ho7 => ?_)
  refine ee_callVX (as := [.int l1, .int l2, .int l3]) (st := [.int (0 : Int32), .ref l4]) dL_at_7 (t_fW_at l0 l1 l2 l3 w) my_fW_at.1 (Nat.le_of_ble_eq_true rfl) my_fW_at.2 rfl cf_0.1 rfl (p_obj_eq.mp ho7) gw_1116 gw_1117 gw_1118 ⟨Nat.le_of_ble_eq_true rfl, Nat.le_of_ble_eq_true rfl⟩ (Nat.le_of_ble_eq_true rfl) gw_1115 ?_ (fun rv7 w7 _ => ?_)
  · refine List.forall_mem_cons.mpr ⟨?_, List.forall_mem_cons.mpr ⟨?_, fun _ h => absurd h List.not_mem_nil⟩⟩
    · refine ⟨15, ⟨⟨by decide, by decide, by decide⟩, _, gw_743, Or.inl ⟨gw_833, rfl⟩⟩, fun w9 => ?_⟩
      show EE Γ ML_at 15 [(0, .ref l0), (1, .int l1), (2, .int l2), (3, .int l3), (4, .ref l4)] [.float 0] w9 _
      refine ee_astoreE (lv2 := [(5, .float 0), (0, .ref l0), (1, .int l1), (2, .int l2), (3, .int l3), (4, .ref l4)]) dL_at_15 (Nat.le_of_ble_eq_true rfl) rfl ?_
      refine ee_iconst (v := (1 : Int32)) dL_at_17 (by decide) ?_
      exact ee_iret rfl dL_at_18
    · refine ⟨19, ⟨⟨by decide, by decide, by decide⟩, _, gw_743, Or.inr ⟨by decide +kernel, ⟨⟨by decide, by decide, by decide⟩, _, gw_742, Or.inl ⟨gw_757, rfl⟩⟩⟩⟩, fun w9 => ?_⟩
      show EE Γ ML_at 19 [(0, .ref l0), (1, .int l1), (2, .int l2), (3, .int l3), (4, .ref l4)] [.float 0] w9 _
      refine ee_astoreE (lv2 := [(5, .float 0), (0, .ref l0), (1, .int l1), (2, .int l2), (3, .int l3), (4, .ref l4)]) dL_at_19 (Nat.le_of_ble_eq_true rfl) rfl ?_
      refine ee_iconst (v := (2 : Int32)) dL_at_21 (by decide) ?_
      exact ee_iret rfl dL_at_22
  · refine ee_kI (fun v7 => ?_)
    refine ee_i2l dL_at_10 ?_
    refine ee_last dL_at_11 (fun w11 _ => ?_)
    refine ee_goto (tgt := 23) dL_at_12 (by decide) ?_
    refine ee_iconst (v := (0 : Int32)) dL_at_23 (by decide) ?_
    exact ee_iret rfl dL_at_24
def fL_part (l0 : Nat) (l1 : Int32) (l2 : Int32) (l3 : Nat) (w : PW) : PX := (p_obj w l0 0).bind fun _ => p_callX (fW_part l0 l1 l2 w) (p_kI fun v5 w5 => (p_astJ w5 l3 (0 : Int32) (Int32.toInt64 v5)).bind fun w9 => some (.inl (some (.int (0 : Int32))), w9)) [("java/lang/IllegalStateException", fun (w9 : PW) => some (.inl (some (.int (1 : Int32))), w9)), ("java/lang/IndexOutOfBoundsException", fun (w9 : PW) => some (.inl (some (.int (2 : Int32))), w9))]
set_option maxRecDepth 20000 in
set_option maxHeartbeats 2000000 in
theorem t_fL_part {Γ : PG} : ∀ (l0 : Nat) (l1 : Int32) (l2 : Int32) (l3 : Nat) (w : PW), EE Γ ML_part 0 (lv_args 0 [.ref l0, .int l1, .int l2, .ref l3]) [] w (fL_part l0 l1 l2 l3 w) := by
  intro l0 l1 l2 l3 w
  unfold fL_part
  show EE Γ ML_part 0 [(0, .ref l0), (1, .int l1), (2, .int l2), (3, .ref l3)] [] w _
  refine ee_aload_n 3 dL_part_0 rfl ?_
  refine ee_iconst (v := (0 : Int32)) dL_part_1 (by decide) ?_
  refine ee_aload_n 0 dL_part_2 rfl ?_
  refine ee_iload_n 1 dL_part_3 rfl ?_
  refine ee_iload_n 2 dL_part_4 rfl ?_
  refine ee_bind (fun _ ho5 => ?_)
  refine ee_callVX (as := [.int l1, .int l2]) (st := [.int (0 : Int32), .ref l3]) dL_part_5 (t_fW_part l0 l1 l2 w) my_fW_part.1 (Nat.le_of_ble_eq_true rfl) my_fW_part.2 rfl cf_0.1 rfl (p_obj_eq.mp ho5) gw_1128 gw_1129 gw_1130 ⟨Nat.le_of_ble_eq_true rfl, Nat.le_of_ble_eq_true rfl⟩ (Nat.le_of_ble_eq_true rfl) gw_1127 ?_ (fun rv5 w5 _ => ?_)
  · refine List.forall_mem_cons.mpr ⟨?_, List.forall_mem_cons.mpr ⟨?_, fun _ h => absurd h List.not_mem_nil⟩⟩
    · refine ⟨13, ⟨⟨by decide, by decide, by decide⟩, _, gw_743, Or.inl ⟨gw_833, rfl⟩⟩, fun w9 => ?_⟩
      show EE Γ ML_part 13 [(0, .ref l0), (1, .int l1), (2, .int l2), (3, .ref l3)] [.float 0] w9 _
      refine ee_astoreE (lv2 := [(4, .float 0), (0, .ref l0), (1, .int l1), (2, .int l2), (3, .ref l3)]) dL_part_13 (Nat.le_of_ble_eq_true rfl) rfl ?_
      refine ee_iconst (v := (1 : Int32)) dL_part_15 (by decide) ?_
      exact ee_iret rfl dL_part_16
    · refine ⟨17, ⟨⟨by decide, by decide, by decide⟩, _, gw_743, Or.inr ⟨by decide +kernel, ⟨⟨by decide, by decide, by decide⟩, _, gw_742, Or.inl ⟨gw_757, rfl⟩⟩⟩⟩, fun w9 => ?_⟩
      show EE Γ ML_part 17 [(0, .ref l0), (1, .int l1), (2, .int l2), (3, .ref l3)] [.float 0] w9 _
      refine ee_astoreE (lv2 := [(4, .float 0), (0, .ref l0), (1, .int l1), (2, .int l2), (3, .ref l3)]) dL_part_17 (Nat.le_of_ble_eq_true rfl) rfl ?_
      refine ee_iconst (v := (2 : Int32)) dL_part_19 (by decide) ?_
      exact ee_iret rfl dL_part_20
  · refine ee_kI (fun v5 => ?_)
    refine ee_i2l dL_part_8 ?_
    refine ee_last dL_part_9 (fun w9 _ => ?_)
    refine ee_goto (tgt := 21) dL_part_10 (by decide) ?_
    refine ee_iconst (v := (0 : Int32)) dL_part_21 (by decide) ?_
    exact ee_iret rfl dL_part_22
def fL_partByte (l0 : Nat) (l1 : Int32) (l2 : Int32) (l3 : Nat) (w : PW) : PX := (p_obj w l0 0).bind fun _ => p_callX (fW_partByte l0 l1 l2 w) (p_kI fun v5 w5 => (p_astJ w5 l3 (0 : Int32) (Int32.toInt64 v5)).bind fun w9 => some (.inl (some (.int (0 : Int32))), w9)) [("java/lang/IllegalStateException", fun (w9 : PW) => some (.inl (some (.int (1 : Int32))), w9)), ("java/lang/IndexOutOfBoundsException", fun (w9 : PW) => some (.inl (some (.int (2 : Int32))), w9))]
set_option maxRecDepth 20000 in
set_option maxHeartbeats 2000000 in
theorem t_fL_partByte {Γ : PG} : ∀ (l0 : Nat) (l1 : Int32) (l2 : Int32) (l3 : Nat) (w : PW), EE Γ ML_partByte 0 (lv_args 0 [.ref l0, .int l1, .int l2, .ref l3]) [] w (fL_partByte l0 l1 l2 l3 w) := by
  intro l0 l1 l2 l3 w
  unfold fL_partByte
  show EE Γ ML_partByte 0 [(0, .ref l0), (1, .int l1), (2, .int l2), (3, .ref l3)] [] w _
  refine ee_aload_n 3 dL_partByte_0 rfl ?_
  refine ee_iconst (v := (0 : Int32)) dL_partByte_1 (by decide) ?_
  refine ee_aload_n 0 dL_partByte_2 rfl ?_
  refine ee_iload_n 1 dL_partByte_3 rfl ?_
  refine ee_iload_n 2 dL_partByte_4 rfl ?_
  refine ee_bind (fun _ ho5 => ?_)
  refine ee_callVX (as := [.int l1, .int l2]) (st := [.int (0 : Int32), .ref l3]) dL_partByte_5 (t_fW_partByte l0 l1 l2 w) my_fW_partByte.1 (Nat.le_of_ble_eq_true rfl) my_fW_partByte.2 rfl cf_0.1 rfl (p_obj_eq.mp ho5) gw_1136 gw_1137 gw_1138 ⟨Nat.le_of_ble_eq_true rfl, Nat.le_of_ble_eq_true rfl⟩ (Nat.le_of_ble_eq_true rfl) gw_1135 ?_ (fun rv5 w5 _ => ?_)
  · refine List.forall_mem_cons.mpr ⟨?_, List.forall_mem_cons.mpr ⟨?_, fun _ h => absurd h List.not_mem_nil⟩⟩
    · refine ⟨13, ⟨⟨by decide, by decide, by decide⟩, _, gw_743, Or.inl ⟨gw_833, rfl⟩⟩, fun w9 => ?_⟩
      show EE Γ ML_partByte 13 [(0, .ref l0), (1, .int l1), (2, .int l2), (3, .ref l3)] [.float 0] w9 _
      refine ee_astoreE (lv2 := [(4, .float 0), (0, .ref l0), (1, .int l1), (2, .int l2), (3, .ref l3)]) dL_partByte_13 (Nat.le_of_ble_eq_true rfl) rfl ?_
      refine ee_iconst (v := (1 : Int32)) dL_partByte_15 (by decide) ?_
      exact ee_iret rfl dL_partByte_16
    · refine ⟨17, ⟨⟨by decide, by decide, by decide⟩, _, gw_743, Or.inr ⟨by decide +kernel, ⟨⟨by decide, by decide, by decide⟩, _, gw_742, Or.inl ⟨gw_757, rfl⟩⟩⟩⟩, fun w9 => ?_⟩
      show EE Γ ML_partByte 17 [(0, .ref l0), (1, .int l1), (2, .int l2), (3, .ref l3)] [.float 0] w9 _
      refine ee_astoreE (lv2 := [(4, .float 0), (0, .ref l0), (1, .int l1), (2, .int l2), (3, .ref l3)]) dL_partByte_17 (Nat.le_of_ble_eq_true rfl) rfl ?_
      refine ee_iconst (v := (2 : Int32)) dL_partByte_19 (by decide) ?_
      exact ee_iret rfl dL_partByte_20
  · refine ee_kI (fun v5 => ?_)
    refine ee_i2l dL_partByte_8 ?_
    refine ee_last dL_partByte_9 (fun w9 _ => ?_)
    refine ee_goto (tgt := 21) dL_partByte_10 (by decide) ?_
    refine ee_iconst (v := (0 : Int32)) dL_partByte_21 (by decide) ?_
    exact ee_iret rfl dL_partByte_22
def fL_unknown (l0 : Nat) (l1 : Int32) (l2 : Int32) (l3 : Nat) (w : PW) : PX := (p_obj w l0 0).bind fun _ => p_callX (fW_unknown l0 l1 l2 w) (p_kI fun v5 w5 => (p_astJ w5 l3 (0 : Int32) (Int32.toInt64 v5)).bind fun w9 => some (.inl (some (.int (0 : Int32))), w9)) [("java/lang/IndexOutOfBoundsException", fun (w9 : PW) => some (.inl (some (.int (1 : Int32))), w9))]
set_option maxRecDepth 20000 in
set_option maxHeartbeats 2000000 in
theorem t_fL_unknown {Γ : PG} : ∀ (l0 : Nat) (l1 : Int32) (l2 : Int32) (l3 : Nat) (w : PW), EE Γ ML_unknown 0 (lv_args 0 [.ref l0, .int l1, .int l2, .ref l3]) [] w (fL_unknown l0 l1 l2 l3 w) := by
  intro l0 l1 l2 l3 w
  unfold fL_unknown
  show EE Γ ML_unknown 0 [(0, .ref l0), (1, .int l1), (2, .int l2), (3, .ref l3)] [] w _
  refine ee_aload_n 3 dL_unknown_0 rfl ?_
  refine ee_iconst (v := (0 : Int32)) dL_unknown_1 (by decide) ?_
  refine ee_aload_n 0 dL_unknown_2 rfl ?_
  refine ee_iload_n 1 dL_unknown_3 rfl ?_
  refine ee_iload_n 2 dL_unknown_4 rfl ?_
  refine ee_bind (fun _ ho5 => ?_)
  refine ee_callVX (as := [.int l1, .int l2]) (st := [.int (0 : Int32), .ref l3]) dL_unknown_5 (t_fW_unknown l0 l1 l2 w) my_fW_unknown.1 (Nat.le_of_ble_eq_true rfl) my_fW_unknown.2 rfl cf_0.1 rfl (p_obj_eq.mp ho5) gw_1143 gw_1144 gw_1145 ⟨Nat.le_of_ble_eq_true rfl, Nat.le_of_ble_eq_true rfl⟩ (Nat.le_of_ble_eq_true rfl) gw_1142 ?_ (fun rv5 w5 _ => ?_)
  · refine List.forall_mem_cons.mpr ⟨?_, fun _ h => absurd h List.not_mem_nil⟩
    · refine ⟨13, ⟨⟨by decide, by decide, by decide⟩, _, gw_742, Or.inl ⟨gw_757, rfl⟩⟩, fun w9 => ?_⟩
      show EE Γ ML_unknown 13 [(0, .ref l0), (1, .int l1), (2, .int l2), (3, .ref l3)] [.float 0] w9 _
      refine ee_astoreE (lv2 := [(4, .float 0), (0, .ref l0), (1, .int l1), (2, .int l2), (3, .ref l3)]) dL_unknown_13 (Nat.le_of_ble_eq_true rfl) rfl ?_
      refine ee_iconst (v := (1 : Int32)) dL_unknown_15 (by decide) ?_
      exact ee_iret rfl dL_unknown_16
  · refine ee_kI (fun v5 => ?_)
    refine ee_i2l dL_unknown_8 ?_
    refine ee_last dL_unknown_9 (fun w9 _ => ?_)
    refine ee_goto (tgt := 17) dL_unknown_10 (by decide) ?_
    refine ee_iconst (v := (0 : Int32)) dL_unknown_17 (by decide) ?_
    exact ee_iret rfl dL_unknown_18
def fL_law_148 (S : Nat × (Nat → Int32)) (k_43 : Nat → Nat → Nat → Int32 → PW → PX) (l1 : Nat) (l2 : Nat) (l3 : Nat) (l4 : Int32) (w : PW) : PX := (p_sld S (l4 + (1 : Int32))).bind fun v154 => (p_sld S (l4 + (2 : Int32))).bind fun v160 => (p_sld S (l4 + (3 : Int32))).bind fun v166 => (p_sld S (l4 + (4 : Int32))).bind fun v172 => p_call (fL_set l1 v154 v160 v166 v172 l3 w) <| p_kI fun v174 w174 => (p_sld S (l4 + (1 : Int32))).bind fun v185 => (p_sld S (l4 + (2 : Int32))).bind fun v191 => (p_sld S (l4 + (3 : Int32))).bind fun v197 => (p_sld S (l4 + (4 : Int32))).bind fun v203 => (p_obj w174 l2 10).bind fun _ => p_call (fD_set l2 v185 v191 v197 v203 w174) <| p_kI fun v204 w204 => p_let (l4 + (5 : Int32)) fun (l4_830 : Int32) => k_43 l1 l2 l3 l4_830 w204
set_option maxRecDepth 20000 in
set_option maxHeartbeats 2000000 in
theorem t_fL_law_148 {Γ : PG} {k_43 : Nat → Nat → Nat → Int32 → PW → PX} (hk_43 : ∀ (l1 : Nat) (l2 : Nat) (l3 : Nat) (l4 : Int32) (w : PW), EE Γ ML_law 43 [(0, .retAddr 5), (1, .ref l1), (2, .ref l2), (3, .ref l3), (4, .int l4)] [] w (k_43 l1 l2 l3 l4 w)) : ∀ (l1 : Nat) (l2 : Nat) (l3 : Nat) (l4 : Int32) (w : PW), EE Γ ML_law 148 [(0, .retAddr 5), (1, .ref l1), (2, .ref l2), (3, .ref l3), (4, .int l4)] [] w (fL_law_148 (pg_S Γ) k_43 l1 l2 l3 l4 w) := by
  intro l1 l2 l3 l4 w
  unfold fL_law_148
  refine ee_aload_n 1 dL_law_148 rfl ?_
  refine ee_aload_nT 0 dL_law_149 rfl ?_
  refine ee_iload 4 dL_law_150 rfl ?_
  refine ee_iconst (v := (1 : Int32)) dL_law_152 (by decide) ?_
  refine ee_iadd dL_law_153 ?_
  refine ee_sld dL_law_154 (fun v154 _ => ?_)
  refine ee_aload_nT 0 dL_law_155 rfl ?_
  refine ee_iload 4 dL_law_156 rfl ?_
  refine ee_iconst (v := (2 : Int32)) dL_law_158 (by decide) ?_
  refine ee_iadd dL_law_159 ?_
  refine ee_sld dL_law_160 (fun v160 _ => ?_)
  refine ee_aload_nT 0 dL_law_161 rfl ?_
  refine ee_iload 4 dL_law_162 rfl ?_
  refine ee_iconst (v := (3 : Int32)) dL_law_164 (by decide) ?_
  refine ee_iadd dL_law_165 ?_
  refine ee_sld dL_law_166 (fun v166 _ => ?_)
  refine ee_aload_nT 0 dL_law_167 rfl ?_
  refine ee_iload 4 dL_law_168 rfl ?_
  refine ee_iconst (v := (4 : Int32)) dL_law_170 (by decide) ?_
  refine ee_iadd dL_law_171 ?_
  refine ee_sld dL_law_172 (fun v172 _ => ?_)
  refine ee_aload_n 3 dL_law_173 rfl ?_
  refine ee_callSW (as := [.ref l1, .int v154, .int v160, .int v166, .int v172, .ref l3]) (st := []) dL_law_174 (t_fL_set l1 v154 v160 v166 v172 l3 w) ⟨by decide, rfl, by decide, by decide⟩ gw_741 gw_52 (Nat.le_of_ble_eq_true rfl) my_fL_set rfl gw_739 gw_740 ⟨Nat.le_of_ble_eq_true rfl, Nat.le_of_ble_eq_true rfl⟩ (Nat.le_of_ble_eq_true rfl) (fun rv174 w174 _ => ?_)
  refine ee_kI (fun v174 => ?_)
  refine ee_istore (lv2 := [(5, .int v174), (0, .retAddr 5), (1, .ref l1), (2, .ref l2), (3, .ref l3), (4, .int l4)]) dL_law_177 (Nat.le_of_ble_eq_true rfl) rfl ?_
  refine ee_aload_n 3 dL_law_179 rfl ?_
  refine ee_aload_nT 1 dL_law_180 rfl ?_
  refine ee_iload 5 dL_law_181 rfl ?_
  refine ee_iconst (v := (1 : Int32)) dL_law_183 (by decide) ?_
  refine ee_iadd dL_law_184 ?_
  refine ee_sld dL_law_185 (fun v185 _ => ?_)
  refine ee_aload_nT 1 dL_law_186 rfl ?_
  refine ee_iload 5 dL_law_187 rfl ?_
  refine ee_iconst (v := (2 : Int32)) dL_law_189 (by decide) ?_
  refine ee_iadd dL_law_190 ?_
  refine ee_sld dL_law_191 (fun v191 _ => ?_)
  refine ee_aload_nT 1 dL_law_192 rfl ?_
  refine ee_iload 5 dL_law_193 rfl ?_
  refine ee_iconst (v := (3 : Int32)) dL_law_195 (by decide) ?_
  refine ee_iadd dL_law_196 ?_
  refine ee_sld dL_law_197 (fun v197 _ => ?_)
  refine ee_aload_nT 1 dL_law_198 rfl ?_
  refine ee_iload 5 dL_law_199 rfl ?_
  refine ee_iconst (v := (4 : Int32)) dL_law_201 (by decide) ?_
  refine ee_iadd dL_law_202 ?_
  refine ee_sld dL_law_203 (fun v203 _ => ?_)
  refine ee_bind (fun _ ho204 => ?_)
  refine ee_callV (as := [.int v185, .int v191, .int v197, .int v203]) (st := []) dL_law_204 (t_fD_set l2 v185 v191 v197 v203 w174) my_fD_set.1 (Nat.le_of_ble_eq_true rfl) my_fD_set.2 rfl cf_10.1 rfl (p_obj_eq.mp ho204) gw_1311 gw_1312 gw_1313 ⟨Nat.le_of_ble_eq_true rfl, Nat.le_of_ble_eq_true rfl⟩ (Nat.le_of_ble_eq_true rfl) (fun rv204 w204 _ => ?_)
  refine ee_kI (fun v204 => ?_)
  refine ee_istore (lv2 := [(6, .int v204), (5, .int v174), (0, .retAddr 5), (1, .ref l1), (2, .ref l2), (3, .ref l3), (4, .int l4)]) dL_law_207 (Nat.le_of_ble_eq_true rfl) rfl ?_
  refine ee_goto (tgt := 830) dL_law_209 (by decide) ?_
  refine ee_iinc 6 dL_law_830 rfl (e := (5 : Int32)) (by decide) (Nat.le_of_ble_eq_true rfl) (fun l4_830 _ => ?_)
  refine ee_lv (lv2 := [(4, .int l4_830), (6, .int v204), (5, .int v174), (0, .retAddr 5), (1, .ref l1), (2, .ref l2), (3, .ref l3)]) rfl ?_
  refine ee_goto (tgt := 43) dL_law_833 (by decide) ?_
  refine ee_pick [3, 4, 5, 6, 0] rfl ?_
  exact hk_43 _ _ _ _ w204
def fL_law_212 (S : Nat × (Nat → Int32)) (k_43 : Nat → Nat → Nat → Int32 → PW → PX) (l1 : Nat) (l2 : Nat) (l3 : Nat) (l4 : Int32) (w : PW) : PX := (p_sld S (l4 + (1 : Int32))).bind fun v218 => p_call (fL_tilePart l1 v218 l3 w) <| p_kI fun v220 w220 => (p_sld S (l4 + (1 : Int32))).bind fun v231 => (p_obj w220 l2 10).bind fun _ => p_call (fD_tilePart l2 v231 w220) <| p_kI fun v232 w232 => p_let (l4 + (5 : Int32)) fun (l4_830 : Int32) => k_43 l1 l2 l3 l4_830 w232
set_option maxRecDepth 20000 in
set_option maxHeartbeats 2000000 in
theorem t_fL_law_212 {Γ : PG} {k_43 : Nat → Nat → Nat → Int32 → PW → PX} (hk_43 : ∀ (l1 : Nat) (l2 : Nat) (l3 : Nat) (l4 : Int32) (w : PW), EE Γ ML_law 43 [(0, .retAddr 5), (1, .ref l1), (2, .ref l2), (3, .ref l3), (4, .int l4)] [] w (k_43 l1 l2 l3 l4 w)) : ∀ (l1 : Nat) (l2 : Nat) (l3 : Nat) (l4 : Int32) (w : PW), EE Γ ML_law 212 [(0, .retAddr 5), (1, .ref l1), (2, .ref l2), (3, .ref l3), (4, .int l4)] [] w (fL_law_212 (pg_S Γ) k_43 l1 l2 l3 l4 w) := by
  intro l1 l2 l3 l4 w
  unfold fL_law_212
  refine ee_aload_n 1 dL_law_212 rfl ?_
  refine ee_aload_nT 0 dL_law_213 rfl ?_
  refine ee_iload 4 dL_law_214 rfl ?_
  refine ee_iconst (v := (1 : Int32)) dL_law_216 (by decide) ?_
  refine ee_iadd dL_law_217 ?_
  refine ee_sld dL_law_218 (fun v218 _ => ?_)
  refine ee_aload_n 3 dL_law_219 rfl ?_
  refine ee_callSW (as := [.ref l1, .int v218, .ref l3]) (st := []) dL_law_220 (t_fL_tilePart l1 v218 l3 w) ⟨by decide, rfl, by decide, by decide⟩ gw_880 gw_52 (Nat.le_of_ble_eq_true rfl) my_fL_tilePart rfl gw_878 gw_879 ⟨Nat.le_of_ble_eq_true rfl, Nat.le_of_ble_eq_true rfl⟩ (Nat.le_of_ble_eq_true rfl) (fun rv220 w220 _ => ?_)
  refine ee_kI (fun v220 => ?_)
  refine ee_istore (lv2 := [(5, .int v220), (0, .retAddr 5), (1, .ref l1), (2, .ref l2), (3, .ref l3), (4, .int l4)]) dL_law_223 (Nat.le_of_ble_eq_true rfl) rfl ?_
  refine ee_aload_n 3 dL_law_225 rfl ?_
  refine ee_aload_nT 1 dL_law_226 rfl ?_
  refine ee_iload 5 dL_law_227 rfl ?_
  refine ee_iconst (v := (1 : Int32)) dL_law_229 (by decide) ?_
  refine ee_iadd dL_law_230 ?_
  refine ee_sld dL_law_231 (fun v231 _ => ?_)
  refine ee_bind (fun _ ho232 => ?_)
  refine ee_callV (as := [.int v231]) (st := []) dL_law_232 (t_fD_tilePart l2 v231 w220) my_fD_tilePart.1 (Nat.le_of_ble_eq_true rfl) my_fD_tilePart.2 rfl cf_10.1 rfl (p_obj_eq.mp ho232) gw_1374 gw_1375 gw_1376 ⟨Nat.le_of_ble_eq_true rfl, Nat.le_of_ble_eq_true rfl⟩ (Nat.le_of_ble_eq_true rfl) (fun rv232 w232 _ => ?_)
  refine ee_kI (fun v232 => ?_)
  refine ee_istore (lv2 := [(6, .int v232), (5, .int v220), (0, .retAddr 5), (1, .ref l1), (2, .ref l2), (3, .ref l3), (4, .int l4)]) dL_law_235 (Nat.le_of_ble_eq_true rfl) rfl ?_
  refine ee_goto (tgt := 830) dL_law_237 (by decide) ?_
  refine ee_iinc 6 dL_law_830 rfl (e := (5 : Int32)) (by decide) (Nat.le_of_ble_eq_true rfl) (fun l4_830 _ => ?_)
  refine ee_lv (lv2 := [(4, .int l4_830), (6, .int v232), (5, .int v220), (0, .retAddr 5), (1, .ref l1), (2, .ref l2), (3, .ref l3)]) rfl ?_
  refine ee_goto (tgt := 43) dL_law_833 (by decide) ?_
  refine ee_pick [3, 4, 5, 6, 0] rfl ?_
  exact hk_43 _ _ _ _ w232
def fL_law_240 (S : Nat × (Nat → Int32)) (k_43 : Nat → Nat → Nat → Int32 → PW → PX) (l1 : Nat) (l2 : Nat) (l3 : Nat) (l4 : Int32) (w : PW) : PX := (p_sld S (l4 + (1 : Int32))).bind fun v246 => p_call (fL_packet l1 v246 l3 w) <| p_kI fun v248 w248 => (p_sld S (l4 + (1 : Int32))).bind fun v259 => (p_obj w248 l2 10).bind fun _ => p_call (fD_packet l2 v259 w248) <| p_kI fun v260 w260 => p_let (l4 + (5 : Int32)) fun (l4_830 : Int32) => k_43 l1 l2 l3 l4_830 w260
set_option maxRecDepth 20000 in
set_option maxHeartbeats 2000000 in
theorem t_fL_law_240 {Γ : PG} {k_43 : Nat → Nat → Nat → Int32 → PW → PX} (hk_43 : ∀ (l1 : Nat) (l2 : Nat) (l3 : Nat) (l4 : Int32) (w : PW), EE Γ ML_law 43 [(0, .retAddr 5), (1, .ref l1), (2, .ref l2), (3, .ref l3), (4, .int l4)] [] w (k_43 l1 l2 l3 l4 w)) : ∀ (l1 : Nat) (l2 : Nat) (l3 : Nat) (l4 : Int32) (w : PW), EE Γ ML_law 240 [(0, .retAddr 5), (1, .ref l1), (2, .ref l2), (3, .ref l3), (4, .int l4)] [] w (fL_law_240 (pg_S Γ) k_43 l1 l2 l3 l4 w) := by
  intro l1 l2 l3 l4 w
  unfold fL_law_240
  refine ee_aload_n 1 dL_law_240 rfl ?_
  refine ee_aload_nT 0 dL_law_241 rfl ?_
  refine ee_iload 4 dL_law_242 rfl ?_
  refine ee_iconst (v := (1 : Int32)) dL_law_244 (by decide) ?_
  refine ee_iadd dL_law_245 ?_
  refine ee_sld dL_law_246 (fun v246 _ => ?_)
  refine ee_aload_n 3 dL_law_247 rfl ?_
  refine ee_callSW (as := [.ref l1, .int v246, .ref l3]) (st := []) dL_law_248 (t_fL_packet l1 v246 l3 w) ⟨by decide, rfl, by decide, by decide⟩ gw_997 gw_52 (Nat.le_of_ble_eq_true rfl) my_fL_packet rfl gw_995 gw_996 ⟨Nat.le_of_ble_eq_true rfl, Nat.le_of_ble_eq_true rfl⟩ (Nat.le_of_ble_eq_true rfl) (fun rv248 w248 _ => ?_)
  refine ee_kI (fun v248 => ?_)
  refine ee_istore (lv2 := [(5, .int v248), (0, .retAddr 5), (1, .ref l1), (2, .ref l2), (3, .ref l3), (4, .int l4)]) dL_law_251 (Nat.le_of_ble_eq_true rfl) rfl ?_
  refine ee_aload_n 3 dL_law_253 rfl ?_
  refine ee_aload_nT 1 dL_law_254 rfl ?_
  refine ee_iload 5 dL_law_255 rfl ?_
  refine ee_iconst (v := (1 : Int32)) dL_law_257 (by decide) ?_
  refine ee_iadd dL_law_258 ?_
  refine ee_sld dL_law_259 (fun v259 _ => ?_)
  refine ee_bind (fun _ ho260 => ?_)
  refine ee_callV (as := [.int v259]) (st := []) dL_law_260 (t_fD_packet l2 v259 w248) my_fD_packet.1 (Nat.le_of_ble_eq_true rfl) my_fD_packet.2 rfl cf_10.1 rfl (p_obj_eq.mp ho260) gw_1378 gw_1379 gw_1380 ⟨Nat.le_of_ble_eq_true rfl, Nat.le_of_ble_eq_true rfl⟩ (Nat.le_of_ble_eq_true rfl) (fun rv260 w260 _ => ?_)
  refine ee_kI (fun v260 => ?_)
  refine ee_istore (lv2 := [(6, .int v260), (5, .int v248), (0, .retAddr 5), (1, .ref l1), (2, .ref l2), (3, .ref l3), (4, .int l4)]) dL_law_263 (Nat.le_of_ble_eq_true rfl) rfl ?_
  refine ee_goto (tgt := 830) dL_law_265 (by decide) ?_
  refine ee_iinc 6 dL_law_830 rfl (e := (5 : Int32)) (by decide) (Nat.le_of_ble_eq_true rfl) (fun l4_830 _ => ?_)
  refine ee_lv (lv2 := [(4, .int l4_830), (6, .int v260), (5, .int v248), (0, .retAddr 5), (1, .ref l1), (2, .ref l2), (3, .ref l3)]) rfl ?_
  refine ee_goto (tgt := 43) dL_law_833 (by decide) ?_
  refine ee_pick [3, 4, 5, 6, 0] rfl ?_
  exact hk_43 _ _ _ _ w260
def fL_law_268 (S : Nat × (Nat → Int32)) (k_43 : Nat → Nat → Nat → Int32 → PW → PX) (l1 : Nat) (l2 : Nat) (l3 : Nat) (l4 : Int32) (w : PW) : PX := (p_sld S (l4 + (1 : Int32))).bind fun v274 => (p_sld S (l4 + (2 : Int32))).bind fun v280 => p_call (fL_byteOf l1 v274 v280 l3 w) <| p_kI fun v282 w282 => (p_sld S (l4 + (1 : Int32))).bind fun v293 => (p_sld S (l4 + (2 : Int32))).bind fun v299 => (p_obj w282 l2 10).bind fun _ => p_call (fD_byteOf l2 v293 v299 w282) <| p_kI fun v300 w300 => p_let (l4 + (5 : Int32)) fun (l4_830 : Int32) => k_43 l1 l2 l3 l4_830 w300
set_option maxRecDepth 20000 in
set_option maxHeartbeats 2000000 in
theorem t_fL_law_268 {Γ : PG} {k_43 : Nat → Nat → Nat → Int32 → PW → PX} (hk_43 : ∀ (l1 : Nat) (l2 : Nat) (l3 : Nat) (l4 : Int32) (w : PW), EE Γ ML_law 43 [(0, .retAddr 5), (1, .ref l1), (2, .ref l2), (3, .ref l3), (4, .int l4)] [] w (k_43 l1 l2 l3 l4 w)) : ∀ (l1 : Nat) (l2 : Nat) (l3 : Nat) (l4 : Int32) (w : PW), EE Γ ML_law 268 [(0, .retAddr 5), (1, .ref l1), (2, .ref l2), (3, .ref l3), (4, .int l4)] [] w (fL_law_268 (pg_S Γ) k_43 l1 l2 l3 l4 w) := by
  intro l1 l2 l3 l4 w
  unfold fL_law_268
  refine ee_aload_n 1 dL_law_268 rfl ?_
  refine ee_aload_nT 0 dL_law_269 rfl ?_
  refine ee_iload 4 dL_law_270 rfl ?_
  refine ee_iconst (v := (1 : Int32)) dL_law_272 (by decide) ?_
  refine ee_iadd dL_law_273 ?_
  refine ee_sld dL_law_274 (fun v274 _ => ?_)
  refine ee_aload_nT 0 dL_law_275 rfl ?_
  refine ee_iload 4 dL_law_276 rfl ?_
  refine ee_iconst (v := (2 : Int32)) dL_law_278 (by decide) ?_
  refine ee_iadd dL_law_279 ?_
  refine ee_sld dL_law_280 (fun v280 _ => ?_)
  refine ee_aload_n 3 dL_law_281 rfl ?_
  refine ee_callSW (as := [.ref l1, .int v274, .int v280, .ref l3]) (st := []) dL_law_282 (t_fL_byteOf l1 v274 v280 l3 w) ⟨by decide, rfl, by decide, by decide⟩ gw_1006 gw_52 (Nat.le_of_ble_eq_true rfl) my_fL_byteOf rfl gw_1004 gw_1005 ⟨Nat.le_of_ble_eq_true rfl, Nat.le_of_ble_eq_true rfl⟩ (Nat.le_of_ble_eq_true rfl) (fun rv282 w282 _ => ?_)
  refine ee_kI (fun v282 => ?_)
  refine ee_istore (lv2 := [(5, .int v282), (0, .retAddr 5), (1, .ref l1), (2, .ref l2), (3, .ref l3), (4, .int l4)]) dL_law_285 (Nat.le_of_ble_eq_true rfl) rfl ?_
  refine ee_aload_n 3 dL_law_287 rfl ?_
  refine ee_aload_nT 1 dL_law_288 rfl ?_
  refine ee_iload 5 dL_law_289 rfl ?_
  refine ee_iconst (v := (1 : Int32)) dL_law_291 (by decide) ?_
  refine ee_iadd dL_law_292 ?_
  refine ee_sld dL_law_293 (fun v293 _ => ?_)
  refine ee_aload_nT 1 dL_law_294 rfl ?_
  refine ee_iload 5 dL_law_295 rfl ?_
  refine ee_iconst (v := (2 : Int32)) dL_law_297 (by decide) ?_
  refine ee_iadd dL_law_298 ?_
  refine ee_sld dL_law_299 (fun v299 _ => ?_)
  refine ee_bind (fun _ ho300 => ?_)
  refine ee_callV (as := [.int v293, .int v299]) (st := []) dL_law_300 (t_fD_byteOf l2 v293 v299 w282) my_fD_byteOf.1 (Nat.le_of_ble_eq_true rfl) my_fD_byteOf.2 rfl cf_10.1 rfl (p_obj_eq.mp ho300) gw_1386 gw_1387 gw_1388 ⟨Nat.le_of_ble_eq_true rfl, Nat.le_of_ble_eq_true rfl⟩ (Nat.le_of_ble_eq_true rfl) (fun rv300 w300 _ => ?_)
  refine ee_kI (fun v300 => ?_)
  refine ee_istore (lv2 := [(6, .int v300), (5, .int v282), (0, .retAddr 5), (1, .ref l1), (2, .ref l2), (3, .ref l3), (4, .int l4)]) dL_law_303 (Nat.le_of_ble_eq_true rfl) rfl ?_
  refine ee_goto (tgt := 830) dL_law_305 (by decide) ?_
  refine ee_iinc 6 dL_law_830 rfl (e := (5 : Int32)) (by decide) (Nat.le_of_ble_eq_true rfl) (fun l4_830 _ => ?_)
  refine ee_lv (lv2 := [(4, .int l4_830), (6, .int v300), (5, .int v282), (0, .retAddr 5), (1, .ref l1), (2, .ref l2), (3, .ref l3)]) rfl ?_
  refine ee_goto (tgt := 43) dL_law_833 (by decide) ?_
  refine ee_pick [3, 4, 5, 6, 0] rfl ?_
  exact hk_43 _ _ _ _ w300
def fL_law_350 (S : Nat × (Nat → Int32)) (k_43 : Nat → Nat → Nat → Int32 → PW → PX) (l1 : Nat) (l2 : Nat) (l3 : Nat) (l4 : Int32) (s0 : Int32) (s1 : Nat) (w : PW) : PX := (p_sld S (l4 + (2 : Int32))).bind fun v355 => (p_obj w s1 10).bind fun _ => p_call (fD_box s1 s0 v355 w) <| p_kI fun v356 w356 => p_let (l4 + (5 : Int32)) fun (l4_830 : Int32) => k_43 l1 l2 l3 l4_830 w356
set_option maxRecDepth 20000 in
set_option maxHeartbeats 2000000 in
theorem t_fL_law_350 {Γ : PG} {k_43 : Nat → Nat → Nat → Int32 → PW → PX} (hk_43 : ∀ (l1 : Nat) (l2 : Nat) (l3 : Nat) (l4 : Int32) (w : PW), EE Γ ML_law 43 [(0, .retAddr 5), (1, .ref l1), (2, .ref l2), (3, .ref l3), (4, .int l4)] [] w (k_43 l1 l2 l3 l4 w)) : ∀ (l1 : Nat) (l2 : Nat) (l3 : Nat) (l4 : Int32) (s0 : Int32) (s1 : Nat) (w : PW), EE Γ ML_law 350 [(0, .retAddr 5), (1, .ref l1), (2, .ref l2), (3, .ref l3), (4, .int l4)] [.int s0, .ref s1] w (fL_law_350 (pg_S Γ) k_43 l1 l2 l3 l4 s0 s1 w) := by
  intro l1 l2 l3 l4 s0 s1 w
  unfold fL_law_350
  refine ee_aload_nT 0 dL_law_350 rfl ?_
  refine ee_iload 4 dL_law_351 rfl ?_
  refine ee_iconst (v := (2 : Int32)) dL_law_353 (by decide) ?_
  refine ee_iadd dL_law_354 ?_
  refine ee_sld dL_law_355 (fun v355 _ => ?_)
  refine ee_bind (fun _ ho356 => ?_)
  refine ee_callV (as := [.int s0, .int v355]) (st := []) dL_law_356 (t_fD_box s1 s0 v355 w) my_fD_box.1 (Nat.le_of_ble_eq_true rfl) my_fD_box.2 rfl cf_10.1 rfl (p_obj_eq.mp ho356) gw_1391 gw_1392 gw_1393 ⟨Nat.le_of_ble_eq_true rfl, Nat.le_of_ble_eq_true rfl⟩ (Nat.le_of_ble_eq_true rfl) (fun rv356 w356 _ => ?_)
  refine ee_kI (fun v356 => ?_)
  refine ee_istore (lv2 := [(6, .int v356), (0, .retAddr 5), (1, .ref l1), (2, .ref l2), (3, .ref l3), (4, .int l4)]) dL_law_359 (Nat.le_of_ble_eq_true rfl) rfl ?_
  refine ee_goto (tgt := 830) dL_law_361 (by decide) ?_
  refine ee_iinc 5 dL_law_830 rfl (e := (5 : Int32)) (by decide) (Nat.le_of_ble_eq_true rfl) (fun l4_830 _ => ?_)
  refine ee_lv (lv2 := [(4, .int l4_830), (6, .int v356), (0, .retAddr 5), (1, .ref l1), (2, .ref l2), (3, .ref l3)]) rfl ?_
  refine ee_goto (tgt := 43) dL_law_833 (by decide) ?_
  refine ee_pick [2, 3, 4, 5, 0] rfl ?_
  exact hk_43 _ _ _ _ w356
def fL_law_323 (S : Nat × (Nat → Int32)) (k_43 : Nat → Nat → Nat → Int32 → PW → PX) (l1 : Nat) (l2 : Nat) (l3 : Nat) (l4 : Int32) (s0 : Int32) (s1 : Nat) (w : PW) : PX := (p_sld S (l4 + (2 : Int32))).bind fun v328 => p_call (fL_box s1 s0 v328 l3 w) <| p_kI fun v330 w330 => (p_sld S (l4 + (1 : Int32))).bind fun v341 => if v341 = 0 then (fL_law_350 S k_43 l1 l2 l3 l4 (0 : Int32) l2 w330) else (fL_law_350 S k_43 l1 l2 l3 l4 (1 : Int32) l2 w330)
set_option maxRecDepth 20000 in
set_option maxHeartbeats 2000000 in
theorem t_fL_law_323 {Γ : PG} {k_43 : Nat → Nat → Nat → Int32 → PW → PX} (hk_43 : ∀ (l1 : Nat) (l2 : Nat) (l3 : Nat) (l4 : Int32) (w : PW), EE Γ ML_law 43 [(0, .retAddr 5), (1, .ref l1), (2, .ref l2), (3, .ref l3), (4, .int l4)] [] w (k_43 l1 l2 l3 l4 w)) : ∀ (l1 : Nat) (l2 : Nat) (l3 : Nat) (l4 : Int32) (s0 : Int32) (s1 : Nat) (w : PW), EE Γ ML_law 323 [(0, .retAddr 5), (1, .ref l1), (2, .ref l2), (3, .ref l3), (4, .int l4)] [.int s0, .ref s1] w (fL_law_323 (pg_S Γ) k_43 l1 l2 l3 l4 s0 s1 w) := by
  intro l1 l2 l3 l4 s0 s1 w
  unfold fL_law_323
  refine ee_aload_nT 0 dL_law_323 rfl ?_
  refine ee_iload 4 dL_law_324 rfl ?_
  refine ee_iconst (v := (2 : Int32)) dL_law_326 (by decide) ?_
  refine ee_iadd dL_law_327 ?_
  refine ee_sld dL_law_328 (fun v328 _ => ?_)
  refine ee_aload_n 3 dL_law_329 rfl ?_
  refine ee_callSW (as := [.ref s1, .int s0, .int v328, .ref l3]) (st := []) dL_law_330 (t_fL_box s1 s0 v328 l3 w) ⟨by decide, rfl, by decide, by decide⟩ gw_1024 gw_52 (Nat.le_of_ble_eq_true rfl) my_fL_box rfl gw_1022 gw_1023 ⟨Nat.le_of_ble_eq_true rfl, Nat.le_of_ble_eq_true rfl⟩ (Nat.le_of_ble_eq_true rfl) (fun rv330 w330 _ => ?_)
  refine ee_kI (fun v330 => ?_)
  refine ee_istore (lv2 := [(5, .int v330), (0, .retAddr 5), (1, .ref l1), (2, .ref l2), (3, .ref l3), (4, .int l4)]) dL_law_333 (Nat.le_of_ble_eq_true rfl) rfl ?_
  refine ee_aload_n 3 dL_law_335 rfl ?_
  refine ee_aload_nT 1 dL_law_336 rfl ?_
  refine ee_iload 5 dL_law_337 rfl ?_
  refine ee_iconst (v := (1 : Int32)) dL_law_339 (by decide) ?_
  refine ee_iadd dL_law_340 ?_
  refine ee_sld dL_law_341 (fun v341 _ => ?_)
  refine ee_if_eq (tgt := 349) dL_law_342 (by decide) (fun h342 => ?_) (fun h342 => ?_)
  · refine ee_iconst (v := (0 : Int32)) dL_law_349 (by decide) ?_
    refine ee_pick [1, 2, 3, 4, 5] rfl ?_
    exact t_fL_law_350 hk_43 _ _ _ _ _ _ w330
  · refine ee_iconst (v := (1 : Int32)) dL_law_345 (by decide) ?_
    refine ee_goto (tgt := 350) dL_law_346 (by decide) ?_
    refine ee_pick [1, 2, 3, 4, 5] rfl ?_
    exact t_fL_law_350 hk_43 _ _ _ _ _ _ w330
def fL_law_308 (S : Nat × (Nat → Int32)) (k_43 : Nat → Nat → Nat → Int32 → PW → PX) (l1 : Nat) (l2 : Nat) (l3 : Nat) (l4 : Int32) (w : PW) : PX := (p_sld S (l4 + (1 : Int32))).bind fun v314 => if v314 = 0 then (fL_law_323 S k_43 l1 l2 l3 l4 (0 : Int32) l1 w) else (fL_law_323 S k_43 l1 l2 l3 l4 (1 : Int32) l1 w)
set_option maxRecDepth 20000 in
set_option maxHeartbeats 2000000 in
theorem t_fL_law_308 {Γ : PG} {k_43 : Nat → Nat → Nat → Int32 → PW → PX} (hk_43 : ∀ (l1 : Nat) (l2 : Nat) (l3 : Nat) (l4 : Int32) (w : PW), EE Γ ML_law 43 [(0, .retAddr 5), (1, .ref l1), (2, .ref l2), (3, .ref l3), (4, .int l4)] [] w (k_43 l1 l2 l3 l4 w)) : ∀ (l1 : Nat) (l2 : Nat) (l3 : Nat) (l4 : Int32) (w : PW), EE Γ ML_law 308 [(0, .retAddr 5), (1, .ref l1), (2, .ref l2), (3, .ref l3), (4, .int l4)] [] w (fL_law_308 (pg_S Γ) k_43 l1 l2 l3 l4 w) := by
  intro l1 l2 l3 l4 w
  unfold fL_law_308
  refine ee_aload_n 1 dL_law_308 rfl ?_
  refine ee_aload_nT 0 dL_law_309 rfl ?_
  refine ee_iload 4 dL_law_310 rfl ?_
  refine ee_iconst (v := (1 : Int32)) dL_law_312 (by decide) ?_
  refine ee_iadd dL_law_313 ?_
  refine ee_sld dL_law_314 (fun v314 _ => ?_)
  refine ee_if_eq (tgt := 322) dL_law_315 (by decide) (fun h315 => ?_) (fun h315 => ?_)
  · refine ee_iconst (v := (0 : Int32)) dL_law_322 (by decide) ?_
    exact t_fL_law_323 hk_43 _ _ _ _ _ _ w
  · refine ee_iconst (v := (1 : Int32)) dL_law_318 (by decide) ?_
    refine ee_goto (tgt := 323) dL_law_319 (by decide) ?_
    exact t_fL_law_323 hk_43 _ _ _ _ _ _ w
def fL_law_364 (S : Nat × (Nat → Int32)) (k_43 : Nat → Nat → Nat → Int32 → PW → PX) (l1 : Nat) (l2 : Nat) (l3 : Nat) (l4 : Int32) (w : PW) : PX := (p_sld S (l4 + (1 : Int32))).bind fun v370 => (p_sld S (l4 + (2 : Int32))).bind fun v376 => p_call (fL_boxByte l1 v370 v376 l3 w) <| p_kI fun v378 w378 => (p_sld S (l4 + (1 : Int32))).bind fun v389 => (p_sld S (l4 + (2 : Int32))).bind fun v395 => (p_obj w378 l2 10).bind fun _ => p_call (fD_boxByte l2 v389 v395 w378) <| p_kI fun v396 w396 => p_let (l4 + (5 : Int32)) fun (l4_830 : Int32) => k_43 l1 l2 l3 l4_830 w396
set_option maxRecDepth 20000 in
set_option maxHeartbeats 2000000 in
theorem t_fL_law_364 {Γ : PG} {k_43 : Nat → Nat → Nat → Int32 → PW → PX} (hk_43 : ∀ (l1 : Nat) (l2 : Nat) (l3 : Nat) (l4 : Int32) (w : PW), EE Γ ML_law 43 [(0, .retAddr 5), (1, .ref l1), (2, .ref l2), (3, .ref l3), (4, .int l4)] [] w (k_43 l1 l2 l3 l4 w)) : ∀ (l1 : Nat) (l2 : Nat) (l3 : Nat) (l4 : Int32) (w : PW), EE Γ ML_law 364 [(0, .retAddr 5), (1, .ref l1), (2, .ref l2), (3, .ref l3), (4, .int l4)] [] w (fL_law_364 (pg_S Γ) k_43 l1 l2 l3 l4 w) := by
  intro l1 l2 l3 l4 w
  unfold fL_law_364
  refine ee_aload_n 1 dL_law_364 rfl ?_
  refine ee_aload_nT 0 dL_law_365 rfl ?_
  refine ee_iload 4 dL_law_366 rfl ?_
  refine ee_iconst (v := (1 : Int32)) dL_law_368 (by decide) ?_
  refine ee_iadd dL_law_369 ?_
  refine ee_sld dL_law_370 (fun v370 _ => ?_)
  refine ee_aload_nT 0 dL_law_371 rfl ?_
  refine ee_iload 4 dL_law_372 rfl ?_
  refine ee_iconst (v := (2 : Int32)) dL_law_374 (by decide) ?_
  refine ee_iadd dL_law_375 ?_
  refine ee_sld dL_law_376 (fun v376 _ => ?_)
  refine ee_aload_n 3 dL_law_377 rfl ?_
  refine ee_callSW (as := [.ref l1, .int v370, .int v376, .ref l3]) (st := []) dL_law_378 (t_fL_boxByte l1 v370 v376 l3 w) ⟨by decide, rfl, by decide, by decide⟩ gw_1066 gw_52 (Nat.le_of_ble_eq_true rfl) my_fL_boxByte rfl gw_1064 gw_1065 ⟨Nat.le_of_ble_eq_true rfl, Nat.le_of_ble_eq_true rfl⟩ (Nat.le_of_ble_eq_true rfl) (fun rv378 w378 _ => ?_)
  refine ee_kI (fun v378 => ?_)
  refine ee_istore (lv2 := [(5, .int v378), (0, .retAddr 5), (1, .ref l1), (2, .ref l2), (3, .ref l3), (4, .int l4)]) dL_law_381 (Nat.le_of_ble_eq_true rfl) rfl ?_
  refine ee_aload_n 3 dL_law_383 rfl ?_
  refine ee_aload_nT 1 dL_law_384 rfl ?_
  refine ee_iload 5 dL_law_385 rfl ?_
  refine ee_iconst (v := (1 : Int32)) dL_law_387 (by decide) ?_
  refine ee_iadd dL_law_388 ?_
  refine ee_sld dL_law_389 (fun v389 _ => ?_)
  refine ee_aload_nT 1 dL_law_390 rfl ?_
  refine ee_iload 5 dL_law_391 rfl ?_
  refine ee_iconst (v := (2 : Int32)) dL_law_393 (by decide) ?_
  refine ee_iadd dL_law_394 ?_
  refine ee_sld dL_law_395 (fun v395 _ => ?_)
  refine ee_bind (fun _ ho396 => ?_)
  refine ee_callV (as := [.int v389, .int v395]) (st := []) dL_law_396 (t_fD_boxByte l2 v389 v395 w378) my_fD_boxByte.1 (Nat.le_of_ble_eq_true rfl) my_fD_boxByte.2 rfl cf_10.1 rfl (p_obj_eq.mp ho396) gw_1405 gw_1406 gw_1407 ⟨Nat.le_of_ble_eq_true rfl, Nat.le_of_ble_eq_true rfl⟩ (Nat.le_of_ble_eq_true rfl) (fun rv396 w396 _ => ?_)
  refine ee_kI (fun v396 => ?_)
  refine ee_istore (lv2 := [(6, .int v396), (5, .int v378), (0, .retAddr 5), (1, .ref l1), (2, .ref l2), (3, .ref l3), (4, .int l4)]) dL_law_399 (Nat.le_of_ble_eq_true rfl) rfl ?_
  refine ee_goto (tgt := 830) dL_law_401 (by decide) ?_
  refine ee_iinc 6 dL_law_830 rfl (e := (5 : Int32)) (by decide) (Nat.le_of_ble_eq_true rfl) (fun l4_830 _ => ?_)
  refine ee_lv (lv2 := [(4, .int l4_830), (6, .int v396), (5, .int v378), (0, .retAddr 5), (1, .ref l1), (2, .ref l2), (3, .ref l3)]) rfl ?_
  refine ee_goto (tgt := 43) dL_law_833 (by decide) ?_
  refine ee_pick [3, 4, 5, 6, 0] rfl ?_
  exact hk_43 _ _ _ _ w396
def fL_law_404 (S : Nat × (Nat → Int32)) (k_43 : Nat → Nat → Nat → Int32 → PW → PX) (l1 : Nat) (l2 : Nat) (l3 : Nat) (l4 : Int32) (w : PW) : PX := (p_obj w l1 0).bind fun _ => p_call (fW_write l1 w) <| p_kI fun v405 w405 => (p_obj w405 l2 10).bind fun _ => p_call (fD_write l2 w405) <| p_kI fun v410 w410 => p_let (l4 + (5 : Int32)) fun (l4_830 : Int32) => k_43 l1 l2 l3 l4_830 w410
set_option maxRecDepth 20000 in
set_option maxHeartbeats 2000000 in
theorem t_fL_law_404 {Γ : PG} {k_43 : Nat → Nat → Nat → Int32 → PW → PX} (hk_43 : ∀ (l1 : Nat) (l2 : Nat) (l3 : Nat) (l4 : Int32) (w : PW), EE Γ ML_law 43 [(0, .retAddr 5), (1, .ref l1), (2, .ref l2), (3, .ref l3), (4, .int l4)] [] w (k_43 l1 l2 l3 l4 w)) : ∀ (l1 : Nat) (l2 : Nat) (l3 : Nat) (l4 : Int32) (w : PW), EE Γ ML_law 404 [(0, .retAddr 5), (1, .ref l1), (2, .ref l2), (3, .ref l3), (4, .int l4)] [] w (fL_law_404 (pg_S Γ) k_43 l1 l2 l3 l4 w) := by
  intro l1 l2 l3 l4 w
  unfold fL_law_404
  refine ee_aload_n 1 dL_law_404 rfl ?_
  refine ee_bind (fun _ ho405 => ?_)
  refine ee_callV (as := []) (st := []) dL_law_405 (t_fW_write l1 w) my_fW_write.1 (Nat.le_of_ble_eq_true rfl) my_fW_write.2 rfl cf_0.1 rfl (p_obj_eq.mp ho405) gw_356 gw_357 gw_358 ⟨Nat.le_of_ble_eq_true rfl, Nat.le_of_ble_eq_true rfl⟩ (Nat.le_of_ble_eq_true rfl) (fun rv405 w405 _ => ?_)
  refine ee_kI (fun v405 => ?_)
  refine ee_pop dL_law_408 rfl ?_
  refine ee_aload_n 2 dL_law_409 rfl ?_
  refine ee_bind (fun _ ho410 => ?_)
  refine ee_callV (as := []) (st := []) dL_law_410 (t_fD_write l2 w405) my_fD_write.1 (Nat.le_of_ble_eq_true rfl) my_fD_write.2 rfl cf_10.1 rfl (p_obj_eq.mp ho410) gw_1409 gw_1410 gw_1411 ⟨Nat.le_of_ble_eq_true rfl, Nat.le_of_ble_eq_true rfl⟩ (Nat.le_of_ble_eq_true rfl) (fun rv410 w410 _ => ?_)
  refine ee_kI (fun v410 => ?_)
  refine ee_pop dL_law_413 rfl ?_
  refine ee_goto (tgt := 830) dL_law_414 (by decide) ?_
  refine ee_iinc 4 dL_law_830 rfl (e := (5 : Int32)) (by decide) (Nat.le_of_ble_eq_true rfl) (fun l4_830 _ => ?_)
  refine ee_lv (lv2 := [(4, .int l4_830), (0, .retAddr 5), (1, .ref l1), (2, .ref l2), (3, .ref l3)]) rfl ?_
  refine ee_goto (tgt := 43) dL_law_833 (by decide) ?_
  refine ee_pick [1, 2, 3, 4, 0] rfl ?_
  exact hk_43 _ _ _ _ w410
def fL_law_417 (S : Nat × (Nat → Int32)) (k_43 : Nat → Nat → Nat → Int32 → PW → PX) (l1 : Nat) (l2 : Nat) (l3 : Nat) (l4 : Int32) (w : PW) : PX := (p_sld S (l4 + (1 : Int32))).bind fun v423 => p_call (fL_byteAt l1 v423 l3 w) <| p_kI fun v425 w425 => (p_sld S (l4 + (1 : Int32))).bind fun v436 => (p_obj w425 l2 10).bind fun _ => p_call (fD_byteAt l2 v436 w425) <| p_kI fun v437 w437 => p_let (l4 + (5 : Int32)) fun (l4_830 : Int32) => k_43 l1 l2 l3 l4_830 w437
set_option maxRecDepth 20000 in
set_option maxHeartbeats 2000000 in
theorem t_fL_law_417 {Γ : PG} {k_43 : Nat → Nat → Nat → Int32 → PW → PX} (hk_43 : ∀ (l1 : Nat) (l2 : Nat) (l3 : Nat) (l4 : Int32) (w : PW), EE Γ ML_law 43 [(0, .retAddr 5), (1, .ref l1), (2, .ref l2), (3, .ref l3), (4, .int l4)] [] w (k_43 l1 l2 l3 l4 w)) : ∀ (l1 : Nat) (l2 : Nat) (l3 : Nat) (l4 : Int32) (w : PW), EE Γ ML_law 417 [(0, .retAddr 5), (1, .ref l1), (2, .ref l2), (3, .ref l3), (4, .int l4)] [] w (fL_law_417 (pg_S Γ) k_43 l1 l2 l3 l4 w) := by
  intro l1 l2 l3 l4 w
  unfold fL_law_417
  refine ee_aload_n 1 dL_law_417 rfl ?_
  refine ee_aload_nT 0 dL_law_418 rfl ?_
  refine ee_iload 4 dL_law_419 rfl ?_
  refine ee_iconst (v := (1 : Int32)) dL_law_421 (by decide) ?_
  refine ee_iadd dL_law_422 ?_
  refine ee_sld dL_law_423 (fun v423 _ => ?_)
  refine ee_aload_n 3 dL_law_424 rfl ?_
  refine ee_callSW (as := [.ref l1, .int v423, .ref l3]) (st := []) dL_law_425 (t_fL_byteAt l1 v423 l3 w) ⟨by decide, rfl, by decide, by decide⟩ gw_1075 gw_52 (Nat.le_of_ble_eq_true rfl) my_fL_byteAt rfl gw_1073 gw_1074 ⟨Nat.le_of_ble_eq_true rfl, Nat.le_of_ble_eq_true rfl⟩ (Nat.le_of_ble_eq_true rfl) (fun rv425 w425 _ => ?_)
  refine ee_kI (fun v425 => ?_)
  refine ee_istore (lv2 := [(5, .int v425), (0, .retAddr 5), (1, .ref l1), (2, .ref l2), (3, .ref l3), (4, .int l4)]) dL_law_428 (Nat.le_of_ble_eq_true rfl) rfl ?_
  refine ee_aload_n 3 dL_law_430 rfl ?_
  refine ee_aload_nT 1 dL_law_431 rfl ?_
  refine ee_iload 5 dL_law_432 rfl ?_
  refine ee_iconst (v := (1 : Int32)) dL_law_434 (by decide) ?_
  refine ee_iadd dL_law_435 ?_
  refine ee_sld dL_law_436 (fun v436 _ => ?_)
  refine ee_bind (fun _ ho437 => ?_)
  refine ee_callV (as := [.int v436]) (st := []) dL_law_437 (t_fD_byteAt l2 v436 w425) my_fD_byteAt.1 (Nat.le_of_ble_eq_true rfl) my_fD_byteAt.2 rfl cf_10.1 rfl (p_obj_eq.mp ho437) gw_1463 gw_1464 gw_1465 ⟨Nat.le_of_ble_eq_true rfl, Nat.le_of_ble_eq_true rfl⟩ (Nat.le_of_ble_eq_true rfl) (fun rv437 w437 _ => ?_)
  refine ee_kI (fun v437 => ?_)
  refine ee_istore (lv2 := [(6, .int v437), (5, .int v425), (0, .retAddr 5), (1, .ref l1), (2, .ref l2), (3, .ref l3), (4, .int l4)]) dL_law_440 (Nat.le_of_ble_eq_true rfl) rfl ?_
  refine ee_goto (tgt := 830) dL_law_442 (by decide) ?_
  refine ee_iinc 6 dL_law_830 rfl (e := (5 : Int32)) (by decide) (Nat.le_of_ble_eq_true rfl) (fun l4_830 _ => ?_)
  refine ee_lv (lv2 := [(4, .int l4_830), (6, .int v437), (5, .int v425), (0, .retAddr 5), (1, .ref l1), (2, .ref l2), (3, .ref l3)]) rfl ?_
  refine ee_goto (tgt := 43) dL_law_833 (by decide) ?_
  refine ee_pick [3, 4, 5, 6, 0] rfl ?_
  exact hk_43 _ _ _ _ w437
def fL_law_445 (S : Nat × (Nat → Int32)) (k_43 : Nat → Nat → Nat → Int32 → PW → PX) (l1 : Nat) (l2 : Nat) (l3 : Nat) (l4 : Int32) (w : PW) : PX := (p_sld S (l4 + (1 : Int32))).bind fun v451 => p_call (fL_feed l1 v451 l3 w) <| p_kI fun v453 w453 => (p_sld S (l4 + (1 : Int32))).bind fun v464 => (p_obj w453 l2 10).bind fun _ => p_call (fD_feed l2 v464 w453) <| p_kI fun v465 w465 => p_let (l4 + (5 : Int32)) fun (l4_830 : Int32) => k_43 l1 l2 l3 l4_830 w465
set_option maxRecDepth 20000 in
set_option maxHeartbeats 2000000 in
theorem t_fL_law_445 {Γ : PG} {k_43 : Nat → Nat → Nat → Int32 → PW → PX} (hk_43 : ∀ (l1 : Nat) (l2 : Nat) (l3 : Nat) (l4 : Int32) (w : PW), EE Γ ML_law 43 [(0, .retAddr 5), (1, .ref l1), (2, .ref l2), (3, .ref l3), (4, .int l4)] [] w (k_43 l1 l2 l3 l4 w)) : ∀ (l1 : Nat) (l2 : Nat) (l3 : Nat) (l4 : Int32) (w : PW), EE Γ ML_law 445 [(0, .retAddr 5), (1, .ref l1), (2, .ref l2), (3, .ref l3), (4, .int l4)] [] w (fL_law_445 (pg_S Γ) k_43 l1 l2 l3 l4 w) := by
  intro l1 l2 l3 l4 w
  unfold fL_law_445
  refine ee_aload_n 1 dL_law_445 rfl ?_
  refine ee_aload_nT 0 dL_law_446 rfl ?_
  refine ee_iload 4 dL_law_447 rfl ?_
  refine ee_iconst (v := (1 : Int32)) dL_law_449 (by decide) ?_
  refine ee_iadd dL_law_450 ?_
  refine ee_sld dL_law_451 (fun v451 _ => ?_)
  refine ee_aload_n 3 dL_law_452 rfl ?_
  refine ee_callSW (as := [.ref l1, .int v451, .ref l3]) (st := []) dL_law_453 (t_fL_feed l1 v451 l3 w) ⟨by decide, rfl, by decide, by decide⟩ gw_1084 gw_52 (Nat.le_of_ble_eq_true rfl) my_fL_feed rfl gw_1082 gw_1083 ⟨Nat.le_of_ble_eq_true rfl, Nat.le_of_ble_eq_true rfl⟩ (Nat.le_of_ble_eq_true rfl) (fun rv453 w453 _ => ?_)
  refine ee_kI (fun v453 => ?_)
  refine ee_istore (lv2 := [(5, .int v453), (0, .retAddr 5), (1, .ref l1), (2, .ref l2), (3, .ref l3), (4, .int l4)]) dL_law_456 (Nat.le_of_ble_eq_true rfl) rfl ?_
  refine ee_aload_n 3 dL_law_458 rfl ?_
  refine ee_aload_nT 1 dL_law_459 rfl ?_
  refine ee_iload 5 dL_law_460 rfl ?_
  refine ee_iconst (v := (1 : Int32)) dL_law_462 (by decide) ?_
  refine ee_iadd dL_law_463 ?_
  refine ee_sld dL_law_464 (fun v464 _ => ?_)
  refine ee_bind (fun _ ho465 => ?_)
  refine ee_callV (as := [.int v464]) (st := []) dL_law_465 (t_fD_feed l2 v464 w453) my_fD_feed.1 (Nat.le_of_ble_eq_true rfl) my_fD_feed.2 rfl cf_10.1 rfl (p_obj_eq.mp ho465) gw_1467 gw_1468 gw_1469 ⟨Nat.le_of_ble_eq_true rfl, Nat.le_of_ble_eq_true rfl⟩ (Nat.le_of_ble_eq_true rfl) (fun rv465 w465 _ => ?_)
  refine ee_kI (fun v465 => ?_)
  refine ee_istore (lv2 := [(6, .int v465), (5, .int v453), (0, .retAddr 5), (1, .ref l1), (2, .ref l2), (3, .ref l3), (4, .int l4)]) dL_law_468 (Nat.le_of_ble_eq_true rfl) rfl ?_
  refine ee_goto (tgt := 830) dL_law_470 (by decide) ?_
  refine ee_iinc 6 dL_law_830 rfl (e := (5 : Int32)) (by decide) (Nat.le_of_ble_eq_true rfl) (fun l4_830 _ => ?_)
  refine ee_lv (lv2 := [(4, .int l4_830), (6, .int v465), (5, .int v453), (0, .retAddr 5), (1, .ref l1), (2, .ref l2), (3, .ref l3)]) rfl ?_
  refine ee_goto (tgt := 43) dL_law_833 (by decide) ?_
  refine ee_pick [3, 4, 5, 6, 0] rfl ?_
  exact hk_43 _ _ _ _ w465
def fL_law_473 (S : Nat × (Nat → Int32)) (k_43 : Nat → Nat → Nat → Int32 → PW → PX) (l1 : Nat) (l2 : Nat) (l3 : Nat) (l4 : Int32) (w : PW) : PX := (p_sld S (l4 + (1 : Int32))).bind fun v479 => (p_sld S (l4 + (2 : Int32))).bind fun v485 => p_call (fL_pass l1 v479 v485 l3 w) <| p_kI fun v487 w487 => (p_sld S (l4 + (1 : Int32))).bind fun v498 => (p_sld S (l4 + (2 : Int32))).bind fun v504 => (p_obj w487 l2 10).bind fun _ => p_call (fD_pass l2 v498 v504 w487) <| p_kI fun v505 w505 => p_let (l4 + (5 : Int32)) fun (l4_830 : Int32) => k_43 l1 l2 l3 l4_830 w505
set_option maxRecDepth 20000 in
set_option maxHeartbeats 2000000 in
theorem t_fL_law_473 {Γ : PG} {k_43 : Nat → Nat → Nat → Int32 → PW → PX} (hk_43 : ∀ (l1 : Nat) (l2 : Nat) (l3 : Nat) (l4 : Int32) (w : PW), EE Γ ML_law 43 [(0, .retAddr 5), (1, .ref l1), (2, .ref l2), (3, .ref l3), (4, .int l4)] [] w (k_43 l1 l2 l3 l4 w)) : ∀ (l1 : Nat) (l2 : Nat) (l3 : Nat) (l4 : Int32) (w : PW), EE Γ ML_law 473 [(0, .retAddr 5), (1, .ref l1), (2, .ref l2), (3, .ref l3), (4, .int l4)] [] w (fL_law_473 (pg_S Γ) k_43 l1 l2 l3 l4 w) := by
  intro l1 l2 l3 l4 w
  unfold fL_law_473
  refine ee_aload_n 1 dL_law_473 rfl ?_
  refine ee_aload_nT 0 dL_law_474 rfl ?_
  refine ee_iload 4 dL_law_475 rfl ?_
  refine ee_iconst (v := (1 : Int32)) dL_law_477 (by decide) ?_
  refine ee_iadd dL_law_478 ?_
  refine ee_sld dL_law_479 (fun v479 _ => ?_)
  refine ee_aload_nT 0 dL_law_480 rfl ?_
  refine ee_iload 4 dL_law_481 rfl ?_
  refine ee_iconst (v := (2 : Int32)) dL_law_483 (by decide) ?_
  refine ee_iadd dL_law_484 ?_
  refine ee_sld dL_law_485 (fun v485 _ => ?_)
  refine ee_aload_n 3 dL_law_486 rfl ?_
  refine ee_callSW (as := [.ref l1, .int v479, .int v485, .ref l3]) (st := []) dL_law_487 (t_fL_pass l1 v479 v485 l3 w) ⟨by decide, rfl, by decide, by decide⟩ gw_1091 gw_52 (Nat.le_of_ble_eq_true rfl) my_fL_pass rfl gw_1089 gw_1090 ⟨Nat.le_of_ble_eq_true rfl, Nat.le_of_ble_eq_true rfl⟩ (Nat.le_of_ble_eq_true rfl) (fun rv487 w487 _ => ?_)
  refine ee_kI (fun v487 => ?_)
  refine ee_istore (lv2 := [(5, .int v487), (0, .retAddr 5), (1, .ref l1), (2, .ref l2), (3, .ref l3), (4, .int l4)]) dL_law_490 (Nat.le_of_ble_eq_true rfl) rfl ?_
  refine ee_aload_n 3 dL_law_492 rfl ?_
  refine ee_aload_nT 1 dL_law_493 rfl ?_
  refine ee_iload 5 dL_law_494 rfl ?_
  refine ee_iconst (v := (1 : Int32)) dL_law_496 (by decide) ?_
  refine ee_iadd dL_law_497 ?_
  refine ee_sld dL_law_498 (fun v498 _ => ?_)
  refine ee_aload_nT 1 dL_law_499 rfl ?_
  refine ee_iload 5 dL_law_500 rfl ?_
  refine ee_iconst (v := (2 : Int32)) dL_law_502 (by decide) ?_
  refine ee_iadd dL_law_503 ?_
  refine ee_sld dL_law_504 (fun v504 _ => ?_)
  refine ee_bind (fun _ ho505 => ?_)
  refine ee_callV (as := [.int v498, .int v504]) (st := []) dL_law_505 (t_fD_pass l2 v498 v504 w487) my_fD_pass.1 (Nat.le_of_ble_eq_true rfl) my_fD_pass.2 rfl cf_10.1 rfl (p_obj_eq.mp ho505) gw_1471 gw_1472 gw_1473 ⟨Nat.le_of_ble_eq_true rfl, Nat.le_of_ble_eq_true rfl⟩ (Nat.le_of_ble_eq_true rfl) (fun rv505 w505 _ => ?_)
  refine ee_kI (fun v505 => ?_)
  refine ee_istore (lv2 := [(6, .int v505), (5, .int v487), (0, .retAddr 5), (1, .ref l1), (2, .ref l2), (3, .ref l3), (4, .int l4)]) dL_law_508 (Nat.le_of_ble_eq_true rfl) rfl ?_
  refine ee_goto (tgt := 830) dL_law_510 (by decide) ?_
  refine ee_iinc 6 dL_law_830 rfl (e := (5 : Int32)) (by decide) (Nat.le_of_ble_eq_true rfl) (fun l4_830 _ => ?_)
  refine ee_lv (lv2 := [(4, .int l4_830), (6, .int v505), (5, .int v487), (0, .retAddr 5), (1, .ref l1), (2, .ref l2), (3, .ref l3)]) rfl ?_
  refine ee_goto (tgt := 43) dL_law_833 (by decide) ?_
  refine ee_pick [3, 4, 5, 6, 0] rfl ?_
  exact hk_43 _ _ _ _ w505
def fL_law_513 (S : Nat × (Nat → Int32)) (k_43 : Nat → Nat → Nat → Int32 → PW → PX) (l1 : Nat) (l2 : Nat) (l3 : Nat) (l4 : Int32) (w : PW) : PX := (p_sld S (l4 + (1 : Int32))).bind fun v519 => (p_sld S (l4 + (2 : Int32))).bind fun v525 => p_call (fL_alter l1 v519 v525 l3 w) <| p_kI fun v527 w527 => (p_sld S (l4 + (1 : Int32))).bind fun v538 => (p_sld S (l4 + (2 : Int32))).bind fun v544 => (p_obj w527 l2 10).bind fun _ => p_call (fD_alter l2 v538 v544 w527) <| p_kI fun v545 w545 => p_let (l4 + (5 : Int32)) fun (l4_830 : Int32) => k_43 l1 l2 l3 l4_830 w545
set_option maxRecDepth 20000 in
set_option maxHeartbeats 2000000 in
theorem t_fL_law_513 {Γ : PG} {k_43 : Nat → Nat → Nat → Int32 → PW → PX} (hk_43 : ∀ (l1 : Nat) (l2 : Nat) (l3 : Nat) (l4 : Int32) (w : PW), EE Γ ML_law 43 [(0, .retAddr 5), (1, .ref l1), (2, .ref l2), (3, .ref l3), (4, .int l4)] [] w (k_43 l1 l2 l3 l4 w)) : ∀ (l1 : Nat) (l2 : Nat) (l3 : Nat) (l4 : Int32) (w : PW), EE Γ ML_law 513 [(0, .retAddr 5), (1, .ref l1), (2, .ref l2), (3, .ref l3), (4, .int l4)] [] w (fL_law_513 (pg_S Γ) k_43 l1 l2 l3 l4 w) := by
  intro l1 l2 l3 l4 w
  unfold fL_law_513
  refine ee_aload_n 1 dL_law_513 rfl ?_
  refine ee_aload_nT 0 dL_law_514 rfl ?_
  refine ee_iload 4 dL_law_515 rfl ?_
  refine ee_iconst (v := (1 : Int32)) dL_law_517 (by decide) ?_
  refine ee_iadd dL_law_518 ?_
  refine ee_sld dL_law_519 (fun v519 _ => ?_)
  refine ee_aload_nT 0 dL_law_520 rfl ?_
  refine ee_iload 4 dL_law_521 rfl ?_
  refine ee_iconst (v := (2 : Int32)) dL_law_523 (by decide) ?_
  refine ee_iadd dL_law_524 ?_
  refine ee_sld dL_law_525 (fun v525 _ => ?_)
  refine ee_aload_n 3 dL_law_526 rfl ?_
  refine ee_callSW (as := [.ref l1, .int v519, .int v525, .ref l3]) (st := []) dL_law_527 (t_fL_alter l1 v519 v525 l3 w) ⟨by decide, rfl, by decide, by decide⟩ gw_1100 gw_52 (Nat.le_of_ble_eq_true rfl) my_fL_alter rfl gw_1098 gw_1099 ⟨Nat.le_of_ble_eq_true rfl, Nat.le_of_ble_eq_true rfl⟩ (Nat.le_of_ble_eq_true rfl) (fun rv527 w527 _ => ?_)
  refine ee_kI (fun v527 => ?_)
  refine ee_istore (lv2 := [(5, .int v527), (0, .retAddr 5), (1, .ref l1), (2, .ref l2), (3, .ref l3), (4, .int l4)]) dL_law_530 (Nat.le_of_ble_eq_true rfl) rfl ?_
  refine ee_aload_n 3 dL_law_532 rfl ?_
  refine ee_aload_nT 1 dL_law_533 rfl ?_
  refine ee_iload 5 dL_law_534 rfl ?_
  refine ee_iconst (v := (1 : Int32)) dL_law_536 (by decide) ?_
  refine ee_iadd dL_law_537 ?_
  refine ee_sld dL_law_538 (fun v538 _ => ?_)
  refine ee_aload_nT 1 dL_law_539 rfl ?_
  refine ee_iload 5 dL_law_540 rfl ?_
  refine ee_iconst (v := (2 : Int32)) dL_law_542 (by decide) ?_
  refine ee_iadd dL_law_543 ?_
  refine ee_sld dL_law_544 (fun v544 _ => ?_)
  refine ee_bind (fun _ ho545 => ?_)
  refine ee_callV (as := [.int v538, .int v544]) (st := []) dL_law_545 (t_fD_alter l2 v538 v544 w527) my_fD_alter.1 (Nat.le_of_ble_eq_true rfl) my_fD_alter.2 rfl cf_10.1 rfl (p_obj_eq.mp ho545) gw_1475 gw_1476 gw_1477 ⟨Nat.le_of_ble_eq_true rfl, Nat.le_of_ble_eq_true rfl⟩ (Nat.le_of_ble_eq_true rfl) (fun rv545 w545 _ => ?_)
  refine ee_kI (fun v545 => ?_)
  refine ee_istore (lv2 := [(6, .int v545), (5, .int v527), (0, .retAddr 5), (1, .ref l1), (2, .ref l2), (3, .ref l3), (4, .int l4)]) dL_law_548 (Nat.le_of_ble_eq_true rfl) rfl ?_
  refine ee_goto (tgt := 830) dL_law_550 (by decide) ?_
  refine ee_iinc 6 dL_law_830 rfl (e := (5 : Int32)) (by decide) (Nat.le_of_ble_eq_true rfl) (fun l4_830 _ => ?_)
  refine ee_lv (lv2 := [(4, .int l4_830), (6, .int v545), (5, .int v527), (0, .retAddr 5), (1, .ref l1), (2, .ref l2), (3, .ref l3)]) rfl ?_
  refine ee_goto (tgt := 43) dL_law_833 (by decide) ?_
  refine ee_pick [3, 4, 5, 6, 0] rfl ?_
  exact hk_43 _ _ _ _ w545
def fL_law_553 (S : Nat × (Nat → Int32)) (k_43 : Nat → Nat → Nat → Int32 → PW → PX) (l1 : Nat) (l2 : Nat) (l3 : Nat) (l4 : Int32) (w : PW) : PX := (p_sld S (l4 + (1 : Int32))).bind fun v559 => p_call (fL_cut l1 v559 l3 w) <| p_kI fun v561 w561 => (p_sld S (l4 + (1 : Int32))).bind fun v572 => (p_obj w561 l2 10).bind fun _ => p_call (fD_cut l2 v572 w561) <| p_kI fun v573 w573 => p_let (l4 + (5 : Int32)) fun (l4_830 : Int32) => k_43 l1 l2 l3 l4_830 w573
set_option maxRecDepth 20000 in
set_option maxHeartbeats 2000000 in
theorem t_fL_law_553 {Γ : PG} {k_43 : Nat → Nat → Nat → Int32 → PW → PX} (hk_43 : ∀ (l1 : Nat) (l2 : Nat) (l3 : Nat) (l4 : Int32) (w : PW), EE Γ ML_law 43 [(0, .retAddr 5), (1, .ref l1), (2, .ref l2), (3, .ref l3), (4, .int l4)] [] w (k_43 l1 l2 l3 l4 w)) : ∀ (l1 : Nat) (l2 : Nat) (l3 : Nat) (l4 : Int32) (w : PW), EE Γ ML_law 553 [(0, .retAddr 5), (1, .ref l1), (2, .ref l2), (3, .ref l3), (4, .int l4)] [] w (fL_law_553 (pg_S Γ) k_43 l1 l2 l3 l4 w) := by
  intro l1 l2 l3 l4 w
  unfold fL_law_553
  refine ee_aload_n 1 dL_law_553 rfl ?_
  refine ee_aload_nT 0 dL_law_554 rfl ?_
  refine ee_iload 4 dL_law_555 rfl ?_
  refine ee_iconst (v := (1 : Int32)) dL_law_557 (by decide) ?_
  refine ee_iadd dL_law_558 ?_
  refine ee_sld dL_law_559 (fun v559 _ => ?_)
  refine ee_aload_n 3 dL_law_560 rfl ?_
  refine ee_callSW (as := [.ref l1, .int v559, .ref l3]) (st := []) dL_law_561 (t_fL_cut l1 v559 l3 w) ⟨by decide, rfl, by decide, by decide⟩ gw_1108 gw_52 (Nat.le_of_ble_eq_true rfl) my_fL_cut rfl gw_1106 gw_1107 ⟨Nat.le_of_ble_eq_true rfl, Nat.le_of_ble_eq_true rfl⟩ (Nat.le_of_ble_eq_true rfl) (fun rv561 w561 _ => ?_)
  refine ee_kI (fun v561 => ?_)
  refine ee_istore (lv2 := [(5, .int v561), (0, .retAddr 5), (1, .ref l1), (2, .ref l2), (3, .ref l3), (4, .int l4)]) dL_law_564 (Nat.le_of_ble_eq_true rfl) rfl ?_
  refine ee_aload_n 3 dL_law_566 rfl ?_
  refine ee_aload_nT 1 dL_law_567 rfl ?_
  refine ee_iload 5 dL_law_568 rfl ?_
  refine ee_iconst (v := (1 : Int32)) dL_law_570 (by decide) ?_
  refine ee_iadd dL_law_571 ?_
  refine ee_sld dL_law_572 (fun v572 _ => ?_)
  refine ee_bind (fun _ ho573 => ?_)
  refine ee_callV (as := [.int v572]) (st := []) dL_law_573 (t_fD_cut l2 v572 w561) my_fD_cut.1 (Nat.le_of_ble_eq_true rfl) my_fD_cut.2 rfl cf_10.1 rfl (p_obj_eq.mp ho573) gw_1479 gw_1480 gw_1481 ⟨Nat.le_of_ble_eq_true rfl, Nat.le_of_ble_eq_true rfl⟩ (Nat.le_of_ble_eq_true rfl) (fun rv573 w573 _ => ?_)
  refine ee_kI (fun v573 => ?_)
  refine ee_istore (lv2 := [(6, .int v573), (5, .int v561), (0, .retAddr 5), (1, .ref l1), (2, .ref l2), (3, .ref l3), (4, .int l4)]) dL_law_576 (Nat.le_of_ble_eq_true rfl) rfl ?_
  refine ee_goto (tgt := 830) dL_law_578 (by decide) ?_
  refine ee_iinc 6 dL_law_830 rfl (e := (5 : Int32)) (by decide) (Nat.le_of_ble_eq_true rfl) (fun l4_830 _ => ?_)
  refine ee_lv (lv2 := [(4, .int l4_830), (6, .int v573), (5, .int v561), (0, .retAddr 5), (1, .ref l1), (2, .ref l2), (3, .ref l3)]) rfl ?_
  refine ee_goto (tgt := 43) dL_law_833 (by decide) ?_
  refine ee_pick [3, 4, 5, 6, 0] rfl ?_
  exact hk_43 _ _ _ _ w573
def fL_law_581 (S : Nat × (Nat → Int32)) (k_43 : Nat → Nat → Nat → Int32 → PW → PX) (l1 : Nat) (l2 : Nat) (l3 : Nat) (l4 : Int32) (w : PW) : PX := (p_obj w l1 0).bind fun _ => p_call (fW_read l1 w) <| p_kI fun v582 w582 => (p_obj w582 l2 10).bind fun _ => p_call (fD_read l2 w582) <| p_kI fun v587 w587 => p_let (l4 + (5 : Int32)) fun (l4_830 : Int32) => k_43 l1 l2 l3 l4_830 w587
set_option maxRecDepth 20000 in
set_option maxHeartbeats 2000000 in
theorem t_fL_law_581 {Γ : PG} {k_43 : Nat → Nat → Nat → Int32 → PW → PX} (hk_43 : ∀ (l1 : Nat) (l2 : Nat) (l3 : Nat) (l4 : Int32) (w : PW), EE Γ ML_law 43 [(0, .retAddr 5), (1, .ref l1), (2, .ref l2), (3, .ref l3), (4, .int l4)] [] w (k_43 l1 l2 l3 l4 w)) : ∀ (l1 : Nat) (l2 : Nat) (l3 : Nat) (l4 : Int32) (w : PW), EE Γ ML_law 581 [(0, .retAddr 5), (1, .ref l1), (2, .ref l2), (3, .ref l3), (4, .int l4)] [] w (fL_law_581 (pg_S Γ) k_43 l1 l2 l3 l4 w) := by
  intro l1 l2 l3 l4 w
  unfold fL_law_581
  refine ee_aload_n 1 dL_law_581 rfl ?_
  refine ee_bind (fun _ ho582 => ?_)
  refine ee_callV (as := []) (st := []) dL_law_582 (t_fW_read l1 w) my_fW_read.1 (Nat.le_of_ble_eq_true rfl) my_fW_read.2 rfl cf_0.1 rfl (p_obj_eq.mp ho582) gw_506 gw_507 gw_508 ⟨Nat.le_of_ble_eq_true rfl, Nat.le_of_ble_eq_true rfl⟩ (Nat.le_of_ble_eq_true rfl) (fun rv582 w582 _ => ?_)
  refine ee_kI (fun v582 => ?_)
  refine ee_pop dL_law_585 rfl ?_
  refine ee_aload_n 2 dL_law_586 rfl ?_
  refine ee_bind (fun _ ho587 => ?_)
  refine ee_callV (as := []) (st := []) dL_law_587 (t_fD_read l2 w582) my_fD_read.1 (Nat.le_of_ble_eq_true rfl) my_fD_read.2 rfl cf_10.1 rfl (p_obj_eq.mp ho587) gw_1483 gw_1484 gw_1485 ⟨Nat.le_of_ble_eq_true rfl, Nat.le_of_ble_eq_true rfl⟩ (Nat.le_of_ble_eq_true rfl) (fun rv587 w587 _ => ?_)
  refine ee_kI (fun v587 => ?_)
  refine ee_pop dL_law_590 rfl ?_
  refine ee_goto (tgt := 830) dL_law_591 (by decide) ?_
  refine ee_iinc 4 dL_law_830 rfl (e := (5 : Int32)) (by decide) (Nat.le_of_ble_eq_true rfl) (fun l4_830 _ => ?_)
  refine ee_lv (lv2 := [(4, .int l4_830), (0, .retAddr 5), (1, .ref l1), (2, .ref l2), (3, .ref l3)]) rfl ?_
  refine ee_goto (tgt := 43) dL_law_833 (by decide) ?_
  refine ee_pick [1, 2, 3, 4, 0] rfl ?_
  exact hk_43 _ _ _ _ w587
def fL_law_594 (S : Nat × (Nat → Int32)) (k_43 : Nat → Nat → Nat → Int32 → PW → PX) (l1 : Nat) (l2 : Nat) (l3 : Nat) (l4 : Int32) (w : PW) : PX := (p_sld S (l4 + (1 : Int32))).bind fun v600 => (p_sld S (l4 + (2 : Int32))).bind fun v606 => (p_sld S (l4 + (3 : Int32))).bind fun v612 => p_call (fL_at l1 v600 v606 v612 l3 w) <| p_kI fun v614 w614 => (p_sld S (l4 + (1 : Int32))).bind fun v625 => (p_sld S (l4 + (2 : Int32))).bind fun v631 => (p_sld S (l4 + (3 : Int32))).bind fun v637 => (p_obj w614 l2 10).bind fun _ => p_call (fD_at l2 v625 v631 v637 w614) <| p_kI fun v638 w638 => (p_obj w638 l2 10).bind fun _ => p_call (fD_thrown l2 w638) <| p_kI fun v644 w644 => if v644 = v614 then (if ¬ v614 = 0 then (p_let (l4 + (5 : Int32)) fun (l4_830 : Int32) => k_43 l1 l2 l3 l4_830 w644) else ((p_aldJ w644 l3 (0 : Int32)).bind fun v661 => if (lg_cmp v661 (Int32.toInt64 v638)) = 0 then (p_let (l4 + (5 : Int32)) fun (l4_830 : Int32) => k_43 l1 l2 l3 l4_830 w644) else (p_retZ (0 : Int32) w644))) else (p_retZ (0 : Int32) w644)
set_option maxRecDepth 20000 in
set_option maxHeartbeats 2000000 in
theorem t_fL_law_594 {Γ : PG} {k_43 : Nat → Nat → Nat → Int32 → PW → PX} (hk_43 : ∀ (l1 : Nat) (l2 : Nat) (l3 : Nat) (l4 : Int32) (w : PW), EE Γ ML_law 43 [(0, .retAddr 5), (1, .ref l1), (2, .ref l2), (3, .ref l3), (4, .int l4)] [] w (k_43 l1 l2 l3 l4 w)) : ∀ (l1 : Nat) (l2 : Nat) (l3 : Nat) (l4 : Int32) (w : PW), EE Γ ML_law 594 [(0, .retAddr 5), (1, .ref l1), (2, .ref l2), (3, .ref l3), (4, .int l4)] [] w (fL_law_594 (pg_S Γ) k_43 l1 l2 l3 l4 w) := by
  intro l1 l2 l3 l4 w
  unfold fL_law_594
  refine ee_aload_n 1 dL_law_594 rfl ?_
  refine ee_aload_nT 0 dL_law_595 rfl ?_
  refine ee_iload 4 dL_law_596 rfl ?_
  refine ee_iconst (v := (1 : Int32)) dL_law_598 (by decide) ?_
  refine ee_iadd dL_law_599 ?_
  refine ee_sld dL_law_600 (fun v600 _ => ?_)
  refine ee_aload_nT 0 dL_law_601 rfl ?_
  refine ee_iload 4 dL_law_602 rfl ?_
  refine ee_iconst (v := (2 : Int32)) dL_law_604 (by decide) ?_
  refine ee_iadd dL_law_605 ?_
  refine ee_sld dL_law_606 (fun v606 _ => ?_)
  refine ee_aload_nT 0 dL_law_607 rfl ?_
  refine ee_iload 4 dL_law_608 rfl ?_
  refine ee_iconst (v := (3 : Int32)) dL_law_610 (by decide) ?_
  refine ee_iadd dL_law_611 ?_
  refine ee_sld dL_law_612 (fun v612 _ => ?_)
  refine ee_aload_n 3 dL_law_613 rfl ?_
  refine ee_callSW (as := [.ref l1, .int v600, .int v606, .int v612, .ref l3]) (st := []) dL_law_614 (t_fL_at l1 v600 v606 v612 l3 w) ⟨by decide, rfl, by decide, by decide⟩ gw_1115 gw_52 (Nat.le_of_ble_eq_true rfl) my_fL_at rfl gw_1113 gw_1114 ⟨Nat.le_of_ble_eq_true rfl, Nat.le_of_ble_eq_true rfl⟩ (Nat.le_of_ble_eq_true rfl) (fun rv614 w614 _ => ?_)
  refine ee_kI (fun v614 => ?_)
  refine ee_istore (lv2 := [(5, .int v614), (0, .retAddr 5), (1, .ref l1), (2, .ref l2), (3, .ref l3), (4, .int l4)]) dL_law_617 (Nat.le_of_ble_eq_true rfl) rfl ?_
  refine ee_aload_n 3 dL_law_619 rfl ?_
  refine ee_aload_nT 1 dL_law_620 rfl ?_
  refine ee_iload 5 dL_law_621 rfl ?_
  refine ee_iconst (v := (1 : Int32)) dL_law_623 (by decide) ?_
  refine ee_iadd dL_law_624 ?_
  refine ee_sld dL_law_625 (fun v625 _ => ?_)
  refine ee_aload_nT 1 dL_law_626 rfl ?_
  refine ee_iload 5 dL_law_627 rfl ?_
  refine ee_iconst (v := (2 : Int32)) dL_law_629 (by decide) ?_
  refine ee_iadd dL_law_630 ?_
  refine ee_sld dL_law_631 (fun v631 _ => ?_)
  refine ee_aload_nT 1 dL_law_632 rfl ?_
  refine ee_iload 5 dL_law_633 rfl ?_
  refine ee_iconst (v := (3 : Int32)) dL_law_635 (by decide) ?_
  refine ee_iadd dL_law_636 ?_
  refine ee_sld dL_law_637 (fun v637 _ => ?_)
  refine ee_bind (fun _ ho638 => ?_)
  refine ee_callV (as := [.int v625, .int v631, .int v637]) (st := []) dL_law_638 (t_fD_at l2 v625 v631 v637 w614) my_fD_at.1 (Nat.le_of_ble_eq_true rfl) my_fD_at.2 rfl cf_10.1 rfl (p_obj_eq.mp ho638) gw_1586 gw_1587 gw_1588 ⟨Nat.le_of_ble_eq_true rfl, Nat.le_of_ble_eq_true rfl⟩ (Nat.le_of_ble_eq_true rfl) (fun rv638 w638 _ => ?_)
  refine ee_kI (fun v638 => ?_)
  refine ee_istore (lv2 := [(6, .int v638), (5, .int v614), (0, .retAddr 5), (1, .ref l1), (2, .ref l2), (3, .ref l3), (4, .int l4)]) dL_law_641 (Nat.le_of_ble_eq_true rfl) rfl ?_
  refine ee_aload_n 4 dL_law_643 rfl ?_
  refine ee_bind (fun _ ho644 => ?_)
  refine ee_callV (as := []) (st := []) dL_law_644 (t_fD_thrown l2 w638) my_fD_thrown.1 (Nat.le_of_ble_eq_true rfl) my_fD_thrown.2 rfl cf_10.1 rfl (p_obj_eq.mp ho644) gw_1307 gw_1308 gw_1309 ⟨Nat.le_of_ble_eq_true rfl, Nat.le_of_ble_eq_true rfl⟩ (Nat.le_of_ble_eq_true rfl) (fun rv644 w644 _ => ?_)
  refine ee_kI (fun v644 => ?_)
  refine ee_iload 1 dL_law_647 rfl ?_
  refine ee_icmp_eq (tgt := 654) dL_law_649 (by decide) (fun h649 => ?_) (fun h649 => ?_)
  · refine ee_iload 1 dL_law_654 rfl ?_
    refine ee_if_ne (tgt := 671) dL_law_656 (by decide) (fun h656 => ?_) (fun h656 => ?_)
    · refine ee_goto (tgt := 830) dL_law_671 (by decide) ?_
      refine ee_iinc 6 dL_law_830 rfl (e := (5 : Int32)) (by decide) (Nat.le_of_ble_eq_true rfl) (fun l4_830 _ => ?_)
      refine ee_lv (lv2 := [(4, .int l4_830), (6, .int v638), (5, .int v614), (0, .retAddr 5), (1, .ref l1), (2, .ref l2), (3, .ref l3)]) rfl ?_
      refine ee_goto (tgt := 43) dL_law_833 (by decide) ?_
      refine ee_pick [3, 4, 5, 6, 0] rfl ?_
      exact hk_43 _ _ _ _ w644
    · refine ee_aload_n 5 dL_law_659 rfl ?_
      refine ee_iconst (v := (0 : Int32)) dL_law_660 (by decide) ?_
      refine ee_lald dL_law_661 (fun v661 _ => ?_)
      refine ee_iload 0 dL_law_662 rfl ?_
      refine ee_i2l dL_law_664 ?_
      refine ee_lcmp dL_law_665 ?_
      refine ee_if_eq (tgt := 671) dL_law_666 (by decide) (fun h666 => ?_) (fun h666 => ?_)
      · refine ee_goto (tgt := 830) dL_law_671 (by decide) ?_
        refine ee_iinc 6 dL_law_830 rfl (e := (5 : Int32)) (by decide) (Nat.le_of_ble_eq_true rfl) (fun l4_830 _ => ?_)
        refine ee_lv (lv2 := [(4, .int l4_830), (6, .int v638), (5, .int v614), (0, .retAddr 5), (1, .ref l1), (2, .ref l2), (3, .ref l3)]) rfl ?_
        refine ee_goto (tgt := 43) dL_law_833 (by decide) ?_
        refine ee_pick [3, 4, 5, 6, 0] rfl ?_
        exact hk_43 _ _ _ _ w644
      · refine ee_iconst (v := (0 : Int32)) dL_law_669 (by decide) ?_
        exact ee_zret rfl dL_law_670
  · refine ee_iconst (v := (0 : Int32)) dL_law_652 (by decide) ?_
    exact ee_zret rfl dL_law_653
def fL_law_674 (S : Nat × (Nat → Int32)) (k_43 : Nat → Nat → Nat → Int32 → PW → PX) (l1 : Nat) (l2 : Nat) (l3 : Nat) (l4 : Int32) (w : PW) : PX := (p_sld S (l4 + (1 : Int32))).bind fun v680 => (p_sld S (l4 + (2 : Int32))).bind fun v686 => p_call (fL_part l1 v680 v686 l3 w) <| p_kI fun v688 w688 => (p_sld S (l4 + (1 : Int32))).bind fun v699 => (p_sld S (l4 + (2 : Int32))).bind fun v705 => (p_obj w688 l2 10).bind fun _ => p_call (fD_part l2 v699 v705 w688) <| p_kI fun v706 w706 => p_let (l4 + (5 : Int32)) fun (l4_830 : Int32) => k_43 l1 l2 l3 l4_830 w706
set_option maxRecDepth 20000 in
set_option maxHeartbeats 2000000 in
theorem t_fL_law_674 {Γ : PG} {k_43 : Nat → Nat → Nat → Int32 → PW → PX} (hk_43 : ∀ (l1 : Nat) (l2 : Nat) (l3 : Nat) (l4 : Int32) (w : PW), EE Γ ML_law 43 [(0, .retAddr 5), (1, .ref l1), (2, .ref l2), (3, .ref l3), (4, .int l4)] [] w (k_43 l1 l2 l3 l4 w)) : ∀ (l1 : Nat) (l2 : Nat) (l3 : Nat) (l4 : Int32) (w : PW), EE Γ ML_law 674 [(0, .retAddr 5), (1, .ref l1), (2, .ref l2), (3, .ref l3), (4, .int l4)] [] w (fL_law_674 (pg_S Γ) k_43 l1 l2 l3 l4 w) := by
  intro l1 l2 l3 l4 w
  unfold fL_law_674
  refine ee_aload_n 1 dL_law_674 rfl ?_
  refine ee_aload_nT 0 dL_law_675 rfl ?_
  refine ee_iload 4 dL_law_676 rfl ?_
  refine ee_iconst (v := (1 : Int32)) dL_law_678 (by decide) ?_
  refine ee_iadd dL_law_679 ?_
  refine ee_sld dL_law_680 (fun v680 _ => ?_)
  refine ee_aload_nT 0 dL_law_681 rfl ?_
  refine ee_iload 4 dL_law_682 rfl ?_
  refine ee_iconst (v := (2 : Int32)) dL_law_684 (by decide) ?_
  refine ee_iadd dL_law_685 ?_
  refine ee_sld dL_law_686 (fun v686 _ => ?_)
  refine ee_aload_n 3 dL_law_687 rfl ?_
  refine ee_callSW (as := [.ref l1, .int v680, .int v686, .ref l3]) (st := []) dL_law_688 (t_fL_part l1 v680 v686 l3 w) ⟨by decide, rfl, by decide, by decide⟩ gw_1127 gw_52 (Nat.le_of_ble_eq_true rfl) my_fL_part rfl gw_1125 gw_1126 ⟨Nat.le_of_ble_eq_true rfl, Nat.le_of_ble_eq_true rfl⟩ (Nat.le_of_ble_eq_true rfl) (fun rv688 w688 _ => ?_)
  refine ee_kI (fun v688 => ?_)
  refine ee_istore (lv2 := [(5, .int v688), (0, .retAddr 5), (1, .ref l1), (2, .ref l2), (3, .ref l3), (4, .int l4)]) dL_law_691 (Nat.le_of_ble_eq_true rfl) rfl ?_
  refine ee_aload_n 3 dL_law_693 rfl ?_
  refine ee_aload_nT 1 dL_law_694 rfl ?_
  refine ee_iload 5 dL_law_695 rfl ?_
  refine ee_iconst (v := (1 : Int32)) dL_law_697 (by decide) ?_
  refine ee_iadd dL_law_698 ?_
  refine ee_sld dL_law_699 (fun v699 _ => ?_)
  refine ee_aload_nT 1 dL_law_700 rfl ?_
  refine ee_iload 5 dL_law_701 rfl ?_
  refine ee_iconst (v := (2 : Int32)) dL_law_703 (by decide) ?_
  refine ee_iadd dL_law_704 ?_
  refine ee_sld dL_law_705 (fun v705 _ => ?_)
  refine ee_bind (fun _ ho706 => ?_)
  refine ee_callV (as := [.int v699, .int v705]) (st := []) dL_law_706 (t_fD_part l2 v699 v705 w688) my_fD_part.1 (Nat.le_of_ble_eq_true rfl) my_fD_part.2 rfl cf_10.1 rfl (p_obj_eq.mp ho706) gw_1591 gw_1592 gw_1593 ⟨Nat.le_of_ble_eq_true rfl, Nat.le_of_ble_eq_true rfl⟩ (Nat.le_of_ble_eq_true rfl) (fun rv706 w706 _ => ?_)
  refine ee_kI (fun v706 => ?_)
  refine ee_istore (lv2 := [(6, .int v706), (5, .int v688), (0, .retAddr 5), (1, .ref l1), (2, .ref l2), (3, .ref l3), (4, .int l4)]) dL_law_709 (Nat.le_of_ble_eq_true rfl) rfl ?_
  refine ee_goto (tgt := 830) dL_law_711 (by decide) ?_
  refine ee_iinc 6 dL_law_830 rfl (e := (5 : Int32)) (by decide) (Nat.le_of_ble_eq_true rfl) (fun l4_830 _ => ?_)
  refine ee_lv (lv2 := [(4, .int l4_830), (6, .int v706), (5, .int v688), (0, .retAddr 5), (1, .ref l1), (2, .ref l2), (3, .ref l3)]) rfl ?_
  refine ee_goto (tgt := 43) dL_law_833 (by decide) ?_
  refine ee_pick [3, 4, 5, 6, 0] rfl ?_
  exact hk_43 _ _ _ _ w706
def fL_law_714 (S : Nat × (Nat → Int32)) (k_43 : Nat → Nat → Nat → Int32 → PW → PX) (l1 : Nat) (l2 : Nat) (l3 : Nat) (l4 : Int32) (w : PW) : PX := (p_sld S (l4 + (1 : Int32))).bind fun v720 => (p_sld S (l4 + (2 : Int32))).bind fun v726 => p_call (fL_partByte l1 v720 v726 l3 w) <| p_kI fun v728 w728 => (p_sld S (l4 + (1 : Int32))).bind fun v739 => (p_sld S (l4 + (2 : Int32))).bind fun v745 => (p_obj w728 l2 10).bind fun _ => p_call (fD_partByte l2 v739 v745 w728) <| p_kI fun v746 w746 => p_let (l4 + (5 : Int32)) fun (l4_830 : Int32) => k_43 l1 l2 l3 l4_830 w746
set_option maxRecDepth 20000 in
set_option maxHeartbeats 2000000 in
theorem t_fL_law_714 {Γ : PG} {k_43 : Nat → Nat → Nat → Int32 → PW → PX} (hk_43 : ∀ (l1 : Nat) (l2 : Nat) (l3 : Nat) (l4 : Int32) (w : PW), EE Γ ML_law 43 [(0, .retAddr 5), (1, .ref l1), (2, .ref l2), (3, .ref l3), (4, .int l4)] [] w (k_43 l1 l2 l3 l4 w)) : ∀ (l1 : Nat) (l2 : Nat) (l3 : Nat) (l4 : Int32) (w : PW), EE Γ ML_law 714 [(0, .retAddr 5), (1, .ref l1), (2, .ref l2), (3, .ref l3), (4, .int l4)] [] w (fL_law_714 (pg_S Γ) k_43 l1 l2 l3 l4 w) := by
  intro l1 l2 l3 l4 w
  unfold fL_law_714
  refine ee_aload_n 1 dL_law_714 rfl ?_
  refine ee_aload_nT 0 dL_law_715 rfl ?_
  refine ee_iload 4 dL_law_716 rfl ?_
  refine ee_iconst (v := (1 : Int32)) dL_law_718 (by decide) ?_
  refine ee_iadd dL_law_719 ?_
  refine ee_sld dL_law_720 (fun v720 _ => ?_)
  refine ee_aload_nT 0 dL_law_721 rfl ?_
  refine ee_iload 4 dL_law_722 rfl ?_
  refine ee_iconst (v := (2 : Int32)) dL_law_724 (by decide) ?_
  refine ee_iadd dL_law_725 ?_
  refine ee_sld dL_law_726 (fun v726 _ => ?_)
  refine ee_aload_n 3 dL_law_727 rfl ?_
  refine ee_callSW (as := [.ref l1, .int v720, .int v726, .ref l3]) (st := []) dL_law_728 (t_fL_partByte l1 v720 v726 l3 w) ⟨by decide, rfl, by decide, by decide⟩ gw_1135 gw_52 (Nat.le_of_ble_eq_true rfl) my_fL_partByte rfl gw_1133 gw_1134 ⟨Nat.le_of_ble_eq_true rfl, Nat.le_of_ble_eq_true rfl⟩ (Nat.le_of_ble_eq_true rfl) (fun rv728 w728 _ => ?_)
  refine ee_kI (fun v728 => ?_)
  refine ee_istore (lv2 := [(5, .int v728), (0, .retAddr 5), (1, .ref l1), (2, .ref l2), (3, .ref l3), (4, .int l4)]) dL_law_731 (Nat.le_of_ble_eq_true rfl) rfl ?_
  refine ee_aload_n 3 dL_law_733 rfl ?_
  refine ee_aload_nT 1 dL_law_734 rfl ?_
  refine ee_iload 5 dL_law_735 rfl ?_
  refine ee_iconst (v := (1 : Int32)) dL_law_737 (by decide) ?_
  refine ee_iadd dL_law_738 ?_
  refine ee_sld dL_law_739 (fun v739 _ => ?_)
  refine ee_aload_nT 1 dL_law_740 rfl ?_
  refine ee_iload 5 dL_law_741 rfl ?_
  refine ee_iconst (v := (2 : Int32)) dL_law_743 (by decide) ?_
  refine ee_iadd dL_law_744 ?_
  refine ee_sld dL_law_745 (fun v745 _ => ?_)
  refine ee_bind (fun _ ho746 => ?_)
  refine ee_callV (as := [.int v739, .int v745]) (st := []) dL_law_746 (t_fD_partByte l2 v739 v745 w728) my_fD_partByte.1 (Nat.le_of_ble_eq_true rfl) my_fD_partByte.2 rfl cf_10.1 rfl (p_obj_eq.mp ho746) gw_1595 gw_1596 gw_1597 ⟨Nat.le_of_ble_eq_true rfl, Nat.le_of_ble_eq_true rfl⟩ (Nat.le_of_ble_eq_true rfl) (fun rv746 w746 _ => ?_)
  refine ee_kI (fun v746 => ?_)
  refine ee_istore (lv2 := [(6, .int v746), (5, .int v728), (0, .retAddr 5), (1, .ref l1), (2, .ref l2), (3, .ref l3), (4, .int l4)]) dL_law_749 (Nat.le_of_ble_eq_true rfl) rfl ?_
  refine ee_goto (tgt := 830) dL_law_751 (by decide) ?_
  refine ee_iinc 6 dL_law_830 rfl (e := (5 : Int32)) (by decide) (Nat.le_of_ble_eq_true rfl) (fun l4_830 _ => ?_)
  refine ee_lv (lv2 := [(4, .int l4_830), (6, .int v746), (5, .int v728), (0, .retAddr 5), (1, .ref l1), (2, .ref l2), (3, .ref l3)]) rfl ?_
  refine ee_goto (tgt := 43) dL_law_833 (by decide) ?_
  refine ee_pick [3, 4, 5, 6, 0] rfl ?_
  exact hk_43 _ _ _ _ w746
def fL_law_754 (S : Nat × (Nat → Int32)) (k_43 : Nat → Nat → Nat → Int32 → PW → PX) (l1 : Nat) (l2 : Nat) (l3 : Nat) (l4 : Int32) (w : PW) : PX := (p_sld S (l4 + (1 : Int32))).bind fun v760 => (p_sld S (l4 + (2 : Int32))).bind fun v766 => p_call (fL_unknown l1 v760 v766 l3 w) <| p_kI fun v768 w768 => (p_sld S (l4 + (1 : Int32))).bind fun v779 => (p_sld S (l4 + (2 : Int32))).bind fun v785 => (p_obj w768 l2 10).bind fun _ => p_call (fD_unknown l2 v779 v785 w768) <| p_kI fun v786 w786 => p_let (l4 + (5 : Int32)) fun (l4_830 : Int32) => k_43 l1 l2 l3 l4_830 w786
set_option maxRecDepth 20000 in
set_option maxHeartbeats 2000000 in
theorem t_fL_law_754 {Γ : PG} {k_43 : Nat → Nat → Nat → Int32 → PW → PX} (hk_43 : ∀ (l1 : Nat) (l2 : Nat) (l3 : Nat) (l4 : Int32) (w : PW), EE Γ ML_law 43 [(0, .retAddr 5), (1, .ref l1), (2, .ref l2), (3, .ref l3), (4, .int l4)] [] w (k_43 l1 l2 l3 l4 w)) : ∀ (l1 : Nat) (l2 : Nat) (l3 : Nat) (l4 : Int32) (w : PW), EE Γ ML_law 754 [(0, .retAddr 5), (1, .ref l1), (2, .ref l2), (3, .ref l3), (4, .int l4)] [] w (fL_law_754 (pg_S Γ) k_43 l1 l2 l3 l4 w) := by
  intro l1 l2 l3 l4 w
  unfold fL_law_754
  refine ee_aload_n 1 dL_law_754 rfl ?_
  refine ee_aload_nT 0 dL_law_755 rfl ?_
  refine ee_iload 4 dL_law_756 rfl ?_
  refine ee_iconst (v := (1 : Int32)) dL_law_758 (by decide) ?_
  refine ee_iadd dL_law_759 ?_
  refine ee_sld dL_law_760 (fun v760 _ => ?_)
  refine ee_aload_nT 0 dL_law_761 rfl ?_
  refine ee_iload 4 dL_law_762 rfl ?_
  refine ee_iconst (v := (2 : Int32)) dL_law_764 (by decide) ?_
  refine ee_iadd dL_law_765 ?_
  refine ee_sld dL_law_766 (fun v766 _ => ?_)
  refine ee_aload_n 3 dL_law_767 rfl ?_
  refine ee_callSW (as := [.ref l1, .int v760, .int v766, .ref l3]) (st := []) dL_law_768 (t_fL_unknown l1 v760 v766 l3 w) ⟨by decide, rfl, by decide, by decide⟩ gw_1142 gw_52 (Nat.le_of_ble_eq_true rfl) my_fL_unknown rfl gw_1140 gw_1141 ⟨Nat.le_of_ble_eq_true rfl, Nat.le_of_ble_eq_true rfl⟩ (Nat.le_of_ble_eq_true rfl) (fun rv768 w768 _ => ?_)
  refine ee_kI (fun v768 => ?_)
  refine ee_istore (lv2 := [(5, .int v768), (0, .retAddr 5), (1, .ref l1), (2, .ref l2), (3, .ref l3), (4, .int l4)]) dL_law_771 (Nat.le_of_ble_eq_true rfl) rfl ?_
  refine ee_aload_n 3 dL_law_773 rfl ?_
  refine ee_aload_nT 1 dL_law_774 rfl ?_
  refine ee_iload 5 dL_law_775 rfl ?_
  refine ee_iconst (v := (1 : Int32)) dL_law_777 (by decide) ?_
  refine ee_iadd dL_law_778 ?_
  refine ee_sld dL_law_779 (fun v779 _ => ?_)
  refine ee_aload_nT 1 dL_law_780 rfl ?_
  refine ee_iload 5 dL_law_781 rfl ?_
  refine ee_iconst (v := (2 : Int32)) dL_law_783 (by decide) ?_
  refine ee_iadd dL_law_784 ?_
  refine ee_sld dL_law_785 (fun v785 _ => ?_)
  refine ee_bind (fun _ ho786 => ?_)
  refine ee_callV (as := [.int v779, .int v785]) (st := []) dL_law_786 (t_fD_unknown l2 v779 v785 w768) my_fD_unknown.1 (Nat.le_of_ble_eq_true rfl) my_fD_unknown.2 rfl cf_10.1 rfl (p_obj_eq.mp ho786) gw_1599 gw_1600 gw_1601 ⟨Nat.le_of_ble_eq_true rfl, Nat.le_of_ble_eq_true rfl⟩ (Nat.le_of_ble_eq_true rfl) (fun rv786 w786 _ => ?_)
  refine ee_kI (fun v786 => ?_)
  refine ee_istore (lv2 := [(6, .int v786), (5, .int v768), (0, .retAddr 5), (1, .ref l1), (2, .ref l2), (3, .ref l3), (4, .int l4)]) dL_law_789 (Nat.le_of_ble_eq_true rfl) rfl ?_
  refine ee_goto (tgt := 830) dL_law_791 (by decide) ?_
  refine ee_iinc 6 dL_law_830 rfl (e := (5 : Int32)) (by decide) (Nat.le_of_ble_eq_true rfl) (fun l4_830 _ => ?_)
  refine ee_lv (lv2 := [(4, .int l4_830), (6, .int v786), (5, .int v768), (0, .retAddr 5), (1, .ref l1), (2, .ref l2), (3, .ref l3)]) rfl ?_
  refine ee_goto (tgt := 43) dL_law_833 (by decide) ?_
  refine ee_pick [3, 4, 5, 6, 0] rfl ?_
  exact hk_43 _ _ _ _ w786
def fL_law_794 (S : Nat × (Nat → Int32)) (k_43 : Nat → Nat → Nat → Int32 → PW → PX) (l1 : Nat) (l2 : Nat) (l3 : Nat) (l4 : Int32) (w : PW) : PX := (p_sld S (l4 + (1 : Int32))).bind fun v800 => (p_obj w l1 0).bind fun _ => p_call (fW_told l1 v800 w) <| p_kI fun v801 w801 => (p_sld S (l4 + (1 : Int32))).bind fun v811 => (p_obj w801 l2 10).bind fun _ => p_call (fD_told l2 v811 w801) <| p_kI fun v812 w812 => p_let (l4 + (5 : Int32)) fun (l4_830 : Int32) => k_43 l1 l2 l3 l4_830 w812
set_option maxRecDepth 20000 in
set_option maxHeartbeats 2000000 in
theorem t_fL_law_794 {Γ : PG} {k_43 : Nat → Nat → Nat → Int32 → PW → PX} (hk_43 : ∀ (l1 : Nat) (l2 : Nat) (l3 : Nat) (l4 : Int32) (w : PW), EE Γ ML_law 43 [(0, .retAddr 5), (1, .ref l1), (2, .ref l2), (3, .ref l3), (4, .int l4)] [] w (k_43 l1 l2 l3 l4 w)) : ∀ (l1 : Nat) (l2 : Nat) (l3 : Nat) (l4 : Int32) (w : PW), EE Γ ML_law 794 [(0, .retAddr 5), (1, .ref l1), (2, .ref l2), (3, .ref l3), (4, .int l4)] [] w (fL_law_794 (pg_S Γ) k_43 l1 l2 l3 l4 w) := by
  intro l1 l2 l3 l4 w
  unfold fL_law_794
  refine ee_aload_n 1 dL_law_794 rfl ?_
  refine ee_aload_nT 0 dL_law_795 rfl ?_
  refine ee_iload 4 dL_law_796 rfl ?_
  refine ee_iconst (v := (1 : Int32)) dL_law_798 (by decide) ?_
  refine ee_iadd dL_law_799 ?_
  refine ee_sld dL_law_800 (fun v800 _ => ?_)
  refine ee_bind (fun _ ho801 => ?_)
  refine ee_callV (as := [.int v800]) (st := []) dL_law_801 (t_fW_told l1 v800 w) my_fW_told.1 (Nat.le_of_ble_eq_true rfl) my_fW_told.2 rfl cf_0.1 rfl (p_obj_eq.mp ho801) gw_710 gw_711 gw_712 ⟨Nat.le_of_ble_eq_true rfl, Nat.le_of_ble_eq_true rfl⟩ (Nat.le_of_ble_eq_true rfl) (fun rv801 w801 _ => ?_)
  refine ee_kI (fun v801 => ?_)
  refine ee_pop dL_law_804 rfl ?_
  refine ee_aload_n 2 dL_law_805 rfl ?_
  refine ee_aload_nT 0 dL_law_806 rfl ?_
  refine ee_iload 4 dL_law_807 rfl ?_
  refine ee_iconst (v := (1 : Int32)) dL_law_809 (by decide) ?_
  refine ee_iadd dL_law_810 ?_
  refine ee_sld dL_law_811 (fun v811 _ => ?_)
  refine ee_bind (fun _ ho812 => ?_)
  refine ee_callV (as := [.int v811]) (st := []) dL_law_812 (t_fD_told l2 v811 w801) my_fD_told.1 (Nat.le_of_ble_eq_true rfl) my_fD_told.2 rfl cf_10.1 rfl (p_obj_eq.mp ho812) gw_1604 gw_1605 gw_1606 ⟨Nat.le_of_ble_eq_true rfl, Nat.le_of_ble_eq_true rfl⟩ (Nat.le_of_ble_eq_true rfl) (fun rv812 w812 _ => ?_)
  refine ee_kI (fun v812 => ?_)
  refine ee_pop dL_law_815 rfl ?_
  refine ee_goto (tgt := 830) dL_law_816 (by decide) ?_
  refine ee_iinc 4 dL_law_830 rfl (e := (5 : Int32)) (by decide) (Nat.le_of_ble_eq_true rfl) (fun l4_830 _ => ?_)
  refine ee_lv (lv2 := [(4, .int l4_830), (0, .retAddr 5), (1, .ref l1), (2, .ref l2), (3, .ref l3)]) rfl ?_
  refine ee_goto (tgt := 43) dL_law_833 (by decide) ?_
  refine ee_pick [1, 2, 3, 4, 0] rfl ?_
  exact hk_43 _ _ _ _ w812
def fL_law_819 (S : Nat × (Nat → Int32)) (k_43 : Nat → Nat → Nat → Int32 → PW → PX) (l1 : Nat) (l2 : Nat) (l3 : Nat) (l4 : Int32) (w : PW) : PX := (p_obj w l1 0).bind fun _ => p_call (fW_clear l1 w) <| p_kV fun w820 => (p_obj w820 l2 10).bind fun _ => p_call (fD_clear l2 w820) <| p_kV fun w824 => p_let (l4 + (5 : Int32)) fun (l4_830 : Int32) => k_43 l1 l2 l3 l4_830 w824
set_option maxRecDepth 20000 in
set_option maxHeartbeats 2000000 in
theorem t_fL_law_819 {Γ : PG} {k_43 : Nat → Nat → Nat → Int32 → PW → PX} (hk_43 : ∀ (l1 : Nat) (l2 : Nat) (l3 : Nat) (l4 : Int32) (w : PW), EE Γ ML_law 43 [(0, .retAddr 5), (1, .ref l1), (2, .ref l2), (3, .ref l3), (4, .int l4)] [] w (k_43 l1 l2 l3 l4 w)) : ∀ (l1 : Nat) (l2 : Nat) (l3 : Nat) (l4 : Int32) (w : PW), EE Γ ML_law 819 [(0, .retAddr 5), (1, .ref l1), (2, .ref l2), (3, .ref l3), (4, .int l4)] [] w (fL_law_819 (pg_S Γ) k_43 l1 l2 l3 l4 w) := by
  intro l1 l2 l3 l4 w
  unfold fL_law_819
  refine ee_aload_n 1 dL_law_819 rfl ?_
  refine ee_bind (fun _ ho820 => ?_)
  refine ee_callV (as := []) (st := []) dL_law_820 (t_fW_clear l1 w) my_fW_clear.1 (Nat.le_of_ble_eq_true rfl) my_fW_clear.2 rfl cf_0.1 rfl (p_obj_eq.mp ho820) gw_728 gw_729 gw_730 ⟨Nat.le_of_ble_eq_true rfl, Nat.le_of_ble_eq_true rfl⟩ (Nat.le_of_ble_eq_true rfl) (fun rv820 w820 _ => ?_)
  refine ee_kV ?_
  refine ee_aload_n 2 dL_law_823 rfl ?_
  refine ee_bind (fun _ ho824 => ?_)
  refine ee_callV (as := []) (st := []) dL_law_824 (t_fD_clear l2 w820) my_fD_clear.1 (Nat.le_of_ble_eq_true rfl) my_fD_clear.2 rfl cf_10.1 rfl (p_obj_eq.mp ho824) gw_1608 gw_1163 gw_1164 ⟨Nat.le_of_ble_eq_true rfl, Nat.le_of_ble_eq_true rfl⟩ (Nat.le_of_ble_eq_true rfl) (fun rv824 w824 _ => ?_)
  refine ee_kV ?_
  refine ee_goto (tgt := 830) dL_law_827 (by decide) ?_
  refine ee_iinc 4 dL_law_830 rfl (e := (5 : Int32)) (by decide) (Nat.le_of_ble_eq_true rfl) (fun l4_830 _ => ?_)
  refine ee_lv (lv2 := [(4, .int l4_830), (0, .retAddr 5), (1, .ref l1), (2, .ref l2), (3, .ref l3)]) rfl ?_
  refine ee_goto (tgt := 43) dL_law_833 (by decide) ?_
  refine ee_pick [1, 2, 3, 4, 0] rfl ?_
  exact hk_43 _ _ _ _ w824
def fL_law_43 (S : Nat × (Nat → Int32)) : Nat → Nat → Nat → Nat → Int32 → PW → PX
  | 0, _, _, _, _, _ => none
  | n9 + 1, l1, l2, l3, l4, w => p_let (Int32.ofNat S.1) fun v46 => if (v46 - (5 : Int32)) < l4 then (p_retZ (1 : Int32) w) else ((p_sld S l4).bind fun v55 => if (v55 &&& (31 : Int32)) = (0 : Int32) then (fL_law_148 S (fL_law_43 S n9) l1 l2 l3 l4 w) else if (v55 &&& (31 : Int32)) = (1 : Int32) then (fL_law_212 S (fL_law_43 S n9) l1 l2 l3 l4 w) else if (v55 &&& (31 : Int32)) = (2 : Int32) then (fL_law_240 S (fL_law_43 S n9) l1 l2 l3 l4 w) else if (v55 &&& (31 : Int32)) = (3 : Int32) then (fL_law_268 S (fL_law_43 S n9) l1 l2 l3 l4 w) else if (v55 &&& (31 : Int32)) = (4 : Int32) then (fL_law_308 S (fL_law_43 S n9) l1 l2 l3 l4 w) else if (v55 &&& (31 : Int32)) = (5 : Int32) then (fL_law_364 S (fL_law_43 S n9) l1 l2 l3 l4 w) else if (v55 &&& (31 : Int32)) = (6 : Int32) then (fL_law_404 S (fL_law_43 S n9) l1 l2 l3 l4 w) else if (v55 &&& (31 : Int32)) = (7 : Int32) then (fL_law_417 S (fL_law_43 S n9) l1 l2 l3 l4 w) else if (v55 &&& (31 : Int32)) = (8 : Int32) then (fL_law_445 S (fL_law_43 S n9) l1 l2 l3 l4 w) else if (v55 &&& (31 : Int32)) = (9 : Int32) then (fL_law_473 S (fL_law_43 S n9) l1 l2 l3 l4 w) else if (v55 &&& (31 : Int32)) = (10 : Int32) then (fL_law_513 S (fL_law_43 S n9) l1 l2 l3 l4 w) else if (v55 &&& (31 : Int32)) = (11 : Int32) then (fL_law_553 S (fL_law_43 S n9) l1 l2 l3 l4 w) else if (v55 &&& (31 : Int32)) = (12 : Int32) then (fL_law_581 S (fL_law_43 S n9) l1 l2 l3 l4 w) else if (v55 &&& (31 : Int32)) = (13 : Int32) then (fL_law_594 S (fL_law_43 S n9) l1 l2 l3 l4 w) else if (v55 &&& (31 : Int32)) = (14 : Int32) then (fL_law_674 S (fL_law_43 S n9) l1 l2 l3 l4 w) else if (v55 &&& (31 : Int32)) = (15 : Int32) then (fL_law_714 S (fL_law_43 S n9) l1 l2 l3 l4 w) else if (v55 &&& (31 : Int32)) = (16 : Int32) then (fL_law_754 S (fL_law_43 S n9) l1 l2 l3 l4 w) else if (v55 &&& (31 : Int32)) = (17 : Int32) then (fL_law_794 S (fL_law_43 S n9) l1 l2 l3 l4 w) else if (v55 &&& (31 : Int32)) = (18 : Int32) then (fL_law_819 S (fL_law_43 S n9) l1 l2 l3 l4 w) else (p_let (l4 + (5 : Int32)) fun (l4_830 : Int32) => (fL_law_43 S n9) l1 l2 l3 l4_830 w))
set_option maxRecDepth 20000 in
set_option maxHeartbeats 2000000 in
theorem t_fL_law_43 {Γ : PG} : ∀ (n9 : Nat) (l1 : Nat) (l2 : Nat) (l3 : Nat) (l4 : Int32) (w : PW), EE Γ ML_law 43 [(0, .retAddr 5), (1, .ref l1), (2, .ref l2), (3, .ref l3), (4, .int l4)] [] w (fL_law_43 (pg_S Γ) n9 l1 l2 l3 l4 w) := by
  intro n9
  induction n9 with
  | zero => intro l1 l2 l3 l4 w; exact ee_none
  | succ n9 ih =>
    intro l1 l2 l3 l4 w
    unfold fL_law_43
    refine ee_iload 4 dL_law_43 rfl ?_
    refine ee_aload_nT 0 dL_law_45 rfl ?_
    refine ee_slen dL_law_46 (fun v46 _ => ?_)
    refine ee_iconst (v := (5 : Int32)) dL_law_47 (by decide) ?_
    refine ee_isub dL_law_48 ?_
    refine ee_icmp_gt (tgt := 836) dL_law_49 (by decide) (fun h49 => ?_) (fun h49 => ?_)
    · refine ee_iconst (v := (1 : Int32)) dL_law_836 (by decide) ?_
      exact ee_zret rfl dL_law_837
    · refine ee_aload_nT 0 dL_law_52 rfl ?_
      refine ee_iload 4 dL_law_53 rfl ?_
      refine ee_sld dL_law_55 (fun v55 _ => ?_)
      refine ee_bipush (v := (31 : Int32)) dL_law_56 (by decide) ?_
      refine ee_iand dL_law_58 ?_
      refine ee_ite (fun h59_0 => ?_) (fun h59_0 => ?_)
      · refine ee_tabIn (tgt := 148) dL_law_59 (by rw [h59_0]; decide) (by rw [h59_0]; decide) (by rw [h59_0]; rfl) (by decide) ?_
        exact t_fL_law_148 ih _ _ _ _ w
      · skip
        refine ee_ite (fun h59_1 => ?_) (fun h59_1 => ?_)
        · refine ee_tabIn (tgt := 212) dL_law_59 (by rw [h59_1]; decide) (by rw [h59_1]; decide) (by rw [h59_1]; rfl) (by decide) ?_
          exact t_fL_law_212 ih _ _ _ _ w
        · skip
          refine ee_ite (fun h59_2 => ?_) (fun h59_2 => ?_)
          · refine ee_tabIn (tgt := 240) dL_law_59 (by rw [h59_2]; decide) (by rw [h59_2]; decide) (by rw [h59_2]; rfl) (by decide) ?_
            exact t_fL_law_240 ih _ _ _ _ w
          · skip
            refine ee_ite (fun h59_3 => ?_) (fun h59_3 => ?_)
            · refine ee_tabIn (tgt := 268) dL_law_59 (by rw [h59_3]; decide) (by rw [h59_3]; decide) (by rw [h59_3]; rfl) (by decide) ?_
              exact t_fL_law_268 ih _ _ _ _ w
            · skip
              refine ee_ite (fun h59_4 => ?_) (fun h59_4 => ?_)
              · refine ee_tabIn (tgt := 308) dL_law_59 (by rw [h59_4]; decide) (by rw [h59_4]; decide) (by rw [h59_4]; rfl) (by decide) ?_
                exact t_fL_law_308 ih _ _ _ _ w
              · skip
                refine ee_ite (fun h59_5 => ?_) (fun h59_5 => ?_)
                · refine ee_tabIn (tgt := 364) dL_law_59 (by rw [h59_5]; decide) (by rw [h59_5]; decide) (by rw [h59_5]; rfl) (by decide) ?_
                  exact t_fL_law_364 ih _ _ _ _ w
                · skip
                  refine ee_ite (fun h59_6 => ?_) (fun h59_6 => ?_)
                  · refine ee_tabIn (tgt := 404) dL_law_59 (by rw [h59_6]; decide) (by rw [h59_6]; decide) (by rw [h59_6]; rfl) (by decide) ?_
                    exact t_fL_law_404 ih _ _ _ _ w
                  · skip
                    refine ee_ite (fun h59_7 => ?_) (fun h59_7 => ?_)
                    · refine ee_tabIn (tgt := 417) dL_law_59 (by rw [h59_7]; decide) (by rw [h59_7]; decide) (by rw [h59_7]; rfl) (by decide) ?_
                      exact t_fL_law_417 ih _ _ _ _ w
                    · skip
                      refine ee_ite (fun h59_8 => ?_) (fun h59_8 => ?_)
                      · refine ee_tabIn (tgt := 445) dL_law_59 (by rw [h59_8]; decide) (by rw [h59_8]; decide) (by rw [h59_8]; rfl) (by decide) ?_
                        exact t_fL_law_445 ih _ _ _ _ w
                      · skip
                        refine ee_ite (fun h59_9 => ?_) (fun h59_9 => ?_)
                        · refine ee_tabIn (tgt := 473) dL_law_59 (by rw [h59_9]; decide) (by rw [h59_9]; decide) (by rw [h59_9]; rfl) (by decide) ?_
                          exact t_fL_law_473 ih _ _ _ _ w
                        · skip
                          refine ee_ite (fun h59_10 => ?_) (fun h59_10 => ?_)
                          · refine ee_tabIn (tgt := 513) dL_law_59 (by rw [h59_10]; decide) (by rw [h59_10]; decide) (by rw [h59_10]; rfl) (by decide) ?_
                            exact t_fL_law_513 ih _ _ _ _ w
                          · skip
                            refine ee_ite (fun h59_11 => ?_) (fun h59_11 => ?_)
                            · refine ee_tabIn (tgt := 553) dL_law_59 (by rw [h59_11]; decide) (by rw [h59_11]; decide) (by rw [h59_11]; rfl) (by decide) ?_
                              exact t_fL_law_553 ih _ _ _ _ w
                            · skip
                              refine ee_ite (fun h59_12 => ?_) (fun h59_12 => ?_)
                              · refine ee_tabIn (tgt := 581) dL_law_59 (by rw [h59_12]; decide) (by rw [h59_12]; decide) (by rw [h59_12]; rfl) (by decide) ?_
                                exact t_fL_law_581 ih _ _ _ _ w
                              · skip
                                refine ee_ite (fun h59_13 => ?_) (fun h59_13 => ?_)
                                · refine ee_tabIn (tgt := 594) dL_law_59 (by rw [h59_13]; decide) (by rw [h59_13]; decide) (by rw [h59_13]; rfl) (by decide) ?_
                                  exact t_fL_law_594 ih _ _ _ _ w
                                · skip
                                  refine ee_ite (fun h59_14 => ?_) (fun h59_14 => ?_)
                                  · refine ee_tabIn (tgt := 674) dL_law_59 (by rw [h59_14]; decide) (by rw [h59_14]; decide) (by rw [h59_14]; rfl) (by decide) ?_
                                    exact t_fL_law_674 ih _ _ _ _ w
                                  · skip
                                    refine ee_ite (fun h59_15 => ?_) (fun h59_15 => ?_)
                                    · refine ee_tabIn (tgt := 714) dL_law_59 (by rw [h59_15]; decide) (by rw [h59_15]; decide) (by rw [h59_15]; rfl) (by decide) ?_
                                      exact t_fL_law_714 ih _ _ _ _ w
                                    · skip
                                      refine ee_ite (fun h59_16 => ?_) (fun h59_16 => ?_)
                                      · refine ee_tabIn (tgt := 754) dL_law_59 (by rw [h59_16]; decide) (by rw [h59_16]; decide) (by rw [h59_16]; rfl) (by decide) ?_
                                        exact t_fL_law_754 ih _ _ _ _ w
                                      · skip
                                        refine ee_ite (fun h59_17 => ?_) (fun h59_17 => ?_)
                                        · refine ee_tabIn (tgt := 794) dL_law_59 (by rw [h59_17]; decide) (by rw [h59_17]; decide) (by rw [h59_17]; rfl) (by decide) ?_
                                          exact t_fL_law_794 ih _ _ _ _ w
                                        · skip
                                          refine ee_ite (fun h59_18 => ?_) (fun h59_18 => ?_)
                                          · refine ee_tabIn (tgt := 819) dL_law_59 (by rw [h59_18]; decide) (by rw [h59_18]; decide) (by rw [h59_18]; rfl) (by decide) ?_
                                            exact t_fL_law_819 ih _ _ _ _ w
                                          · skip
                                            refine ee_tabOut (tgt := 830) dL_law_59 (by have e0 : ¬ Int32.toInt (v55 &&& (31 : Int32)) = (0 : Int) := fun h => h59_0 (Int32.toInt_inj.mp (h.trans (show (0 : Int) = (0 : Int32).toInt by decide))); have e1 : ¬ Int32.toInt (v55 &&& (31 : Int32)) = (1 : Int) := fun h => h59_1 (Int32.toInt_inj.mp (h.trans (show (1 : Int) = (1 : Int32).toInt by decide))); have e2 : ¬ Int32.toInt (v55 &&& (31 : Int32)) = (2 : Int) := fun h => h59_2 (Int32.toInt_inj.mp (h.trans (show (2 : Int) = (2 : Int32).toInt by decide))); have e3 : ¬ Int32.toInt (v55 &&& (31 : Int32)) = (3 : Int) := fun h => h59_3 (Int32.toInt_inj.mp (h.trans (show (3 : Int) = (3 : Int32).toInt by decide))); have e4 : ¬ Int32.toInt (v55 &&& (31 : Int32)) = (4 : Int) := fun h => h59_4 (Int32.toInt_inj.mp (h.trans (show (4 : Int) = (4 : Int32).toInt by decide))); have e5 : ¬ Int32.toInt (v55 &&& (31 : Int32)) = (5 : Int) := fun h => h59_5 (Int32.toInt_inj.mp (h.trans (show (5 : Int) = (5 : Int32).toInt by decide))); have e6 : ¬ Int32.toInt (v55 &&& (31 : Int32)) = (6 : Int) := fun h => h59_6 (Int32.toInt_inj.mp (h.trans (show (6 : Int) = (6 : Int32).toInt by decide))); have e7 : ¬ Int32.toInt (v55 &&& (31 : Int32)) = (7 : Int) := fun h => h59_7 (Int32.toInt_inj.mp (h.trans (show (7 : Int) = (7 : Int32).toInt by decide))); have e8 : ¬ Int32.toInt (v55 &&& (31 : Int32)) = (8 : Int) := fun h => h59_8 (Int32.toInt_inj.mp (h.trans (show (8 : Int) = (8 : Int32).toInt by decide))); have e9 : ¬ Int32.toInt (v55 &&& (31 : Int32)) = (9 : Int) := fun h => h59_9 (Int32.toInt_inj.mp (h.trans (show (9 : Int) = (9 : Int32).toInt by decide))); have e10 : ¬ Int32.toInt (v55 &&& (31 : Int32)) = (10 : Int) := fun h => h59_10 (Int32.toInt_inj.mp (h.trans (show (10 : Int) = (10 : Int32).toInt by decide))); have e11 : ¬ Int32.toInt (v55 &&& (31 : Int32)) = (11 : Int) := fun h => h59_11 (Int32.toInt_inj.mp (h.trans (show (11 : Int) = (11 : Int32).toInt by decide))); have e12 : ¬ Int32.toInt (v55 &&& (31 : Int32)) = (12 : Int) := fun h => h59_12 (Int32.toInt_inj.mp (h.trans (show (12 : Int) = (12 : Int32).toInt by decide))); have e13 : ¬ Int32.toInt (v55 &&& (31 : Int32)) = (13 : Int) := fun h => h59_13 (Int32.toInt_inj.mp (h.trans (show (13 : Int) = (13 : Int32).toInt by decide))); have e14 : ¬ Int32.toInt (v55 &&& (31 : Int32)) = (14 : Int) := fun h => h59_14 (Int32.toInt_inj.mp (h.trans (show (14 : Int) = (14 : Int32).toInt by decide))); have e15 : ¬ Int32.toInt (v55 &&& (31 : Int32)) = (15 : Int) := fun h => h59_15 (Int32.toInt_inj.mp (h.trans (show (15 : Int) = (15 : Int32).toInt by decide))); have e16 : ¬ Int32.toInt (v55 &&& (31 : Int32)) = (16 : Int) := fun h => h59_16 (Int32.toInt_inj.mp (h.trans (show (16 : Int) = (16 : Int32).toInt by decide))); have e17 : ¬ Int32.toInt (v55 &&& (31 : Int32)) = (17 : Int) := fun h => h59_17 (Int32.toInt_inj.mp (h.trans (show (17 : Int) = (17 : Int32).toInt by decide))); have e18 : ¬ Int32.toInt (v55 &&& (31 : Int32)) = (18 : Int) := fun h => h59_18 (Int32.toInt_inj.mp (h.trans (show (18 : Int) = (18 : Int32).toInt by decide))); omega) (by decide) ?_
                                            refine ee_iinc 4 dL_law_830 rfl (e := (5 : Int32)) (by decide) (Nat.le_of_ble_eq_true rfl) (fun l4_830 _ => ?_)
                                            refine ee_lv (lv2 := [(4, .int l4_830), (0, .retAddr 5), (1, .ref l1), (2, .ref l2), (3, .ref l3)]) rfl ?_
                                            refine ee_goto (tgt := 43) dL_law_833 (by decide) ?_
                                            refine ee_pick [1, 2, 3, 4, 0] rfl ?_
                                            exact ih _ _ _ _ w
def fL_law (S : Nat × (Nat → Int32)) (w : PW) : PX := p_newO w 0 11 [.null, .null, .null, .null, .null, .null, .null, .null, .null, .null, .int 0] fun v0 w0 => p_call (fL_cell S (0 : Int32) w0) <| p_kI fun v6 w6 => p_call (fL_cell S (1 : Int32) w6) <| p_kI fun v11 w11 => p_call (fW_init v0 v6 v11 w11) <| p_kV fun w14 => p_newO w14 10 44 [.int 0, .int 0, .int 0, .null, .null, .null, .null, .null, .int 0, .null, .null, .null, .null, .null, .int 0, .null, .null, .null, .null, .null, .int 0, .null, .int 0, .null, .int 0, .int 0, .int 0, .int 0, .null, .null, .int 0, .null, .null, .null, .null, .null, .null, .null, .null, .int 0, .int 0, .int 0, .null, .int 0] fun v18 w18 => p_call (fL_cell S (0 : Int32) w18) <| p_kI fun v24 w24 => p_call (fL_cell S (1 : Int32) w24) <| p_kI fun v29 w29 => p_call (fD_init v18 v24 v29 w29) <| p_kV fun w32 => p_newJ w32 (1 : Int32) fun v37 w37 => fL_law_43 S FUEL v0 v18 v37 (2 : Int32) w37
set_option maxRecDepth 20000 in
set_option maxHeartbeats 2000000 in
theorem t_fL_law {Γ : PG} : ∀ (w : PW), EE Γ ML_law 0 (lv_args 0 [.retAddr 5]) [] w (fL_law (pg_S Γ) w) := by
  intro w
  unfold fL_law
  show EE Γ ML_law 0 [(0, .retAddr 5)] [] w _
  refine ee_new dL_law_0 lnL_8 (fun v0 w0 _ _ => ?_)
  refine ee_dup dL_law_3 rfl ?_
  refine ee_aload_nT 0 dL_law_4 rfl ?_
  refine ee_iconst (v := (0 : Int32)) dL_law_5 (by decide) ?_
  refine ee_callS (as := [.retAddr 5, .int (0 : Int32)]) (st := [.ref v0, .ref v0]) dL_law_6 (t_fL_cell (0 : Int32) w0) my_fL_cell.1 (Nat.le_of_ble_eq_true rfl) my_fL_cell.2 rfl gw_736 gw_737 ⟨Nat.le_of_ble_eq_true rfl, Nat.le_of_ble_eq_true rfl⟩ (Nat.le_of_ble_eq_true rfl) (fun rv6 w6 _ => ?_)
  refine ee_kI (fun v6 => ?_)
  refine ee_aload_nT 0 dL_law_9 rfl ?_
  refine ee_iconst (v := (1 : Int32)) dL_law_10 (by decide) ?_
  refine ee_callS (as := [.retAddr 5, .int (1 : Int32)]) (st := [.int v6, .ref v0, .ref v0]) dL_law_11 (t_fL_cell (1 : Int32) w6) my_fL_cell.1 (Nat.le_of_ble_eq_true rfl) my_fL_cell.2 rfl gw_736 gw_737 ⟨Nat.le_of_ble_eq_true rfl, Nat.le_of_ble_eq_true rfl⟩ (Nat.le_of_ble_eq_true rfl) (fun rv11 w11 _ => ?_)
  refine ee_kI (fun v11 => ?_)
  refine ee_callI (as := [.int v6, .int v11]) (st := [.ref v0]) dL_law_14 (t_fW_init v0 v6 v11 w11) my_fW_init.1 (Nat.le_of_ble_eq_true rfl) my_fW_init.2 rfl rfl rfl gw_82 gw_83 ⟨Nat.le_of_ble_eq_true rfl, Nat.le_of_ble_eq_true rfl⟩ (Nat.le_of_ble_eq_true rfl) (fun rv14 w14 _ => ?_)
  refine ee_kV ?_
  refine ee_astore_n (lv2 := [(1, .ref v0), (0, .retAddr 5)]) dL_law_17 (Nat.le_of_ble_eq_true rfl) rfl ?_
  refine ee_new dL_law_18 lnL_76 (fun v18 w18 _ _ => ?_)
  refine ee_dup dL_law_21 rfl ?_
  refine ee_aload_nT 1 dL_law_22 rfl ?_
  refine ee_iconst (v := (0 : Int32)) dL_law_23 (by decide) ?_
  refine ee_callS (as := [.retAddr 5, .int (0 : Int32)]) (st := [.ref v18, .ref v18]) dL_law_24 (t_fL_cell (0 : Int32) w18) my_fL_cell.1 (Nat.le_of_ble_eq_true rfl) my_fL_cell.2 rfl gw_736 gw_737 ⟨Nat.le_of_ble_eq_true rfl, Nat.le_of_ble_eq_true rfl⟩ (Nat.le_of_ble_eq_true rfl) (fun rv24 w24 _ => ?_)
  refine ee_kI (fun v24 => ?_)
  refine ee_aload_nT 1 dL_law_27 rfl ?_
  refine ee_iconst (v := (1 : Int32)) dL_law_28 (by decide) ?_
  refine ee_callS (as := [.retAddr 5, .int (1 : Int32)]) (st := [.int v24, .ref v18, .ref v18]) dL_law_29 (t_fL_cell (1 : Int32) w24) my_fL_cell.1 (Nat.le_of_ble_eq_true rfl) my_fL_cell.2 rfl gw_736 gw_737 ⟨Nat.le_of_ble_eq_true rfl, Nat.le_of_ble_eq_true rfl⟩ (Nat.le_of_ble_eq_true rfl) (fun rv29 w29 _ => ?_)
  refine ee_kI (fun v29 => ?_)
  refine ee_callI (as := [.int v24, .int v29]) (st := [.ref v18]) dL_law_32 (t_fD_init v18 v24 v29 w29) my_fD_init.1 (Nat.le_of_ble_eq_true rfl) my_fD_init.2 rfl rfl rfl gw_1154 gw_1155 ⟨Nat.le_of_ble_eq_true rfl, Nat.le_of_ble_eq_true rfl⟩ (Nat.le_of_ble_eq_true rfl) (fun rv32 w32 _ => ?_)
  refine ee_kV ?_
  refine ee_astore_n (lv2 := [(2, .ref v18), (1, .ref v0), (0, .retAddr 5)]) dL_law_35 (Nat.le_of_ble_eq_true rfl) rfl ?_
  refine ee_iconst (v := (1 : Int32)) dL_law_36 (by decide) ?_
  refine ee_newJ dL_law_37 (fun v37 w37 _ _ _ => ?_)
  refine ee_astore_n (lv2 := [(3, .ref v37), (2, .ref v18), (1, .ref v0), (0, .retAddr 5)]) dL_law_39 (Nat.le_of_ble_eq_true rfl) rfl ?_
  refine ee_iconst (v := (2 : Int32)) dL_law_40 (by decide) ?_
  refine ee_istore (lv2 := [(4, .int (2 : Int32)), (3, .ref v37), (2, .ref v18), (1, .ref v0), (0, .retAddr 5)]) dL_law_41 (Nat.le_of_ble_eq_true rfl) rfl ?_
  refine ee_pick [4, 3, 2, 1, 0] rfl ?_
  exact t_fL_law_43 FUEL _ _ _ _ w37
