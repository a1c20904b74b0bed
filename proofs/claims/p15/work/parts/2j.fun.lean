def fW_byteAt_18 (w : PW) : PX := p_throw "java/lang/IndexOutOfBoundsException" w
set_option maxRecDepth 20000 in
set_option maxHeartbeats 2000000 in
theorem t_fW_byteAt_18 {Γ : PG} : ∀ (w : PW), EE Γ MW_byteAt 18 [] [] w (fW_byteAt_18 w) := by
  intro w
  unfold fW_byteAt_18
  exact ee_throw (text := "no such byte") (names := ["java/lang/RuntimeException", "java/lang/Exception"]) (L4 := 6) (Or.inl rfl) dW_byteAt_18 dW_byteAt_21 (fun _ _ _ _ _ _ _ _ _ _ _ _ _ _ _ _ hx hb ho hz k => va_ldcS hx hb ho hz dW_byteAt_22 k) dW_byteAt_24 dW_byteAt_27 (by decide) (by decide) gw_755 gw_69 oa_95 rfl (by decide +kernel) ⟨Nat.le_of_ble_eq_true rfl, Nat.le_of_ble_eq_true rfl⟩
def fW_byteAt (l0 : Nat) (l1 : Int32) (w : PW) : PX := if l1 < 0 then (fW_byteAt_18 w) else ((p_getR w l0 0 3).bind fun v6 => (p_getR w v6 9 0).bind fun v9 => (p_getI w v9 2 2).bind fun v12 => if l1 < v12 then ((p_getR w l0 0 3).bind fun v29 => (p_getR w v29 9 0).bind fun v32 => (p_obj w v32 2).bind fun _ => p_call (fBytes_get v32 l1 w) <| p_kI fun v36 w36 => some (.inl (some (.int v36)), w36)) else (fW_byteAt_18 w))
set_option maxRecDepth 20000 in
set_option maxHeartbeats 2000000 in
theorem t_fW_byteAt {Γ : PG} : ∀ (l0 : Nat) (l1 : Int32) (w : PW), EE Γ MW_byteAt 0 (lv_args 0 [.ref l0, .int l1]) [] w (fW_byteAt l0 l1 w) := by
  intro l0 l1 w
  unfold fW_byteAt
  show EE Γ MW_byteAt 0 [(0, .ref l0), (1, .int l1)] [] w _
  refine ee_iload_n 1 dW_byteAt_0 rfl ?_
  refine ee_if_lt (tgt := 18) dW_byteAt_1 (by decide) (fun h1 => ?_) (fun h1 => ?_)
  · refine ee_pick [] rfl ?_
    exact t_fW_byteAt_18 w
  · refine ee_iload_n 1 dW_byteAt_4 rfl ?_
    refine ee_aload_n 0 dW_byteAt_5 rfl ?_
    refine ee_getR dW_byteAt_6 lfW_29 (fun v6 _ => ?_)
    refine ee_getR dW_byteAt_9 lfW_218 (fun v9 _ => ?_)
    refine ee_getI dW_byteAt_12 lfW_180 (fun v12 _ => ?_)
    refine ee_icmp_lt (tgt := 28) dW_byteAt_15 (by decide) (fun h15 => ?_) (fun h15 => ?_)
    · refine ee_aload_n 0 dW_byteAt_28 rfl ?_
      refine ee_getR dW_byteAt_29 lfW_29 (fun v29 _ => ?_)
      refine ee_getR dW_byteAt_32 lfW_218 (fun v32 _ => ?_)
      refine ee_iload_n 1 dW_byteAt_35 rfl ?_
      refine ee_bind (fun _ ho36 => ?_)
      refine ee_callV (as := [.int l1]) (st := []) dW_byteAt_36 (t_fBytes_get v32 l1 w) my_fBytes_get.1 (Nat.le_of_ble_eq_true rfl) my_fBytes_get.2 rfl cf_2.1 rfl (p_obj_eq.mp ho36) gw_1081 gw_459 gw_460 ⟨Nat.le_of_ble_eq_true rfl, Nat.le_of_ble_eq_true rfl⟩ (Nat.le_of_ble_eq_true rfl) (fun rv36 w36 _ => ?_)
      refine ee_kI (fun v36 => ?_)
      exact ee_iret rfl dW_byteAt_39
    · refine ee_pick [] rfl ?_
      exact t_fW_byteAt_18 w
def fW_feed (l0 : Nat) (l1 : Int32) (w : PW) : PX := p_call (fW_isByte l1 w) <| p_kI fun v1 w1 => if ¬ v1 = 0 then ((p_getR w1 l0 0 4).bind fun v18 => (p_obj w1 v18 2).bind fun _ => p_call (fBytes_append v18 l1 w1) <| p_kI fun v22 w22 => if ¬ v22 = 0 then ((p_getR w22 l0 0 4).bind fun v39 => (p_getI w22 v39 2 2).bind fun v42 => some (.inl (some (.int v42)), w22)) else (p_throw "java/lang/UnsupportedOperationException" w22)) else (p_throw "java/lang/IllegalArgumentException" w1)
set_option maxRecDepth 20000 in
set_option maxHeartbeats 2000000 in
theorem t_fW_feed {Γ : PG} : ∀ (l0 : Nat) (l1 : Int32) (w : PW), EE Γ MW_feed 0 (lv_args 0 [.ref l0, .int l1]) [] w (fW_feed l0 l1 w) := by
  intro l0 l1 w
  unfold fW_feed
  show EE Γ MW_feed 0 [(0, .ref l0), (1, .int l1)] [] w _
  refine ee_iload_n 1 dW_feed_0 rfl ?_
  refine ee_callS (as := [.int l1]) (st := []) dW_feed_1 (t_fW_isByte l1 w) my_fW_isByte.1 (Nat.le_of_ble_eq_true rfl) my_fW_isByte.2 rfl gw_1012 gw_1013 ⟨Nat.le_of_ble_eq_true rfl, Nat.le_of_ble_eq_true rfl⟩ (Nat.le_of_ble_eq_true rfl) (fun rv1 w1 _ => ?_)
  refine ee_kI (fun v1 => ?_)
  refine ee_if_ne (tgt := 17) dW_feed_4 (by decide) (fun h4 => ?_) (fun h4 => ?_)
  · refine ee_aload_n 0 dW_feed_17 rfl ?_
    refine ee_getR dW_feed_18 lfW_38 (fun v18 _ => ?_)
    refine ee_iload_n 1 dW_feed_21 rfl ?_
    refine ee_bind (fun _ ho22 => ?_)
    refine ee_callV (as := [.int l1]) (st := []) dW_feed_22 (t_fBytes_append v18 l1 w1) my_fBytes_append.1 (Nat.le_of_ble_eq_true rfl) my_fBytes_append.2 rfl cf_2.1 rfl (p_obj_eq.mp ho22) gw_1072 gw_378 gw_379 ⟨Nat.le_of_ble_eq_true rfl, Nat.le_of_ble_eq_true rfl⟩ (Nat.le_of_ble_eq_true rfl) (fun rv22 w22 _ => ?_)
    refine ee_kI (fun v22 => ?_)
    refine ee_if_ne (tgt := 38) dW_feed_25 (by decide) (fun h25 => ?_) (fun h25 => ?_)
    · refine ee_aload_n 0 dW_feed_38 rfl ?_
      refine ee_getR dW_feed_39 lfW_38 (fun v39 _ => ?_)
      refine ee_getI dW_feed_42 lfW_180 (fun v42 _ => ?_)
      exact ee_iret rfl dW_feed_45
    · exact ee_throw (text := "no room for a byte") (names := ["java/lang/RuntimeException", "java/lang/Exception"]) (L4 := 6) (Or.inl rfl) dW_feed_28 dW_feed_31 (fun _ _ _ _ _ _ _ _ _ _ _ _ _ _ _ _ hx hb ho hz k => va_ldcS hx hb ho hz dW_feed_32 k) dW_feed_34 dW_feed_37 (by decide) (by decide) gw_887 gw_72 oa_140 rfl (by decide +kernel) ⟨Nat.le_of_ble_eq_true rfl, Nat.le_of_ble_eq_true rfl⟩
  · exact ee_throw (text := "no byte") (names := ["java/lang/RuntimeException", "java/lang/Exception"]) (L4 := 6) (Or.inl rfl) dW_feed_7 dW_feed_10 (fun _ _ _ _ _ _ _ _ _ _ _ _ _ _ _ _ hx hb ho hz k => va_ldcS hx hb ho hz dW_feed_11 k) dW_feed_13 dW_feed_16 (by decide) (by decide) gw_852 gw_71 oa_118 rfl (by decide +kernel) ⟨Nat.le_of_ble_eq_true rfl, Nat.le_of_ble_eq_true rfl⟩
def fW_pass_18 (w : PW) : PX := p_throw "java/lang/IndexOutOfBoundsException" w
set_option maxRecDepth 20000 in
set_option maxHeartbeats 2000000 in
theorem t_fW_pass_18 {Γ : PG} : ∀ (w : PW), EE Γ MW_pass 18 [] [] w (fW_pass_18 w) := by
  intro w
  unfold fW_pass_18
  exact ee_throw (text := "no such byte") (names := ["java/lang/RuntimeException", "java/lang/Exception"]) (L4 := 6) (Or.inl rfl) dW_pass_18 dW_pass_21 (fun _ _ _ _ _ _ _ _ _ _ _ _ _ _ _ _ hx hb ho hz k => va_ldcS hx hb ho hz dW_pass_22 k) dW_pass_24 dW_pass_27 (by decide) (by decide) gw_755 gw_69 oa_95 rfl (by decide +kernel) ⟨Nat.le_of_ble_eq_true rfl, Nat.le_of_ble_eq_true rfl⟩
def fW_pass_87 : Nat → Nat → Int32 → Int32 → Int32 → PW → PX
  | 0, _, _, _, _, _ => none
  | n9 + 1, l0, l1, l3, l4, w => if l3 ≤ l4 then (some (.inl (some (.int l3)), w)) else ((p_getR w l0 0 4).bind fun v94 => (p_getR w l0 0 3).bind fun v98 => (p_getR w v98 9 0).bind fun v101 => (p_obj w v101 2).bind fun _ => p_call (fBytes_get v101 (l1 + l4) w) <| p_kI fun v108 w108 => (p_obj w108 v94 2).bind fun _ => p_call (fBytes_append v94 v108 w108) <| p_kI fun v111 w111 => p_let (l4 + (1 : Int32)) fun (l4_115 : Int32) => (fW_pass_87 n9) l0 l1 l3 l4_115 w111)
set_option maxRecDepth 20000 in
set_option maxHeartbeats 2000000 in
theorem t_fW_pass_87 {Γ : PG} : ∀ (n9 : Nat) (l0 : Nat) (l1 : Int32) (l3 : Int32) (l4 : Int32) (w : PW), EE Γ MW_pass 87 [(0, .ref l0), (1, .int l1), (3, .int l3), (4, .int l4)] [] w (fW_pass_87 n9 l0 l1 l3 l4 w) := by
  intro n9
  induction n9 with
  | zero => intro l0 l1 l3 l4 w; exact ee_none
  | succ n9 ih =>
    intro l0 l1 l3 l4 w
    unfold fW_pass_87
    refine ee_iload 3 dW_pass_87 rfl ?_
    refine ee_iload_n 2 dW_pass_89 rfl ?_
    refine ee_icmp_ge (tgt := 121) dW_pass_90 (by decide) (fun h90 => ?_) (fun h90 => ?_)
    · refine ee_iload_n 2 dW_pass_121 rfl ?_
      exact ee_iret rfl dW_pass_122
    · refine ee_aload_n 0 dW_pass_93 rfl ?_
      refine ee_getR dW_pass_94 lfW_38 (fun v94 _ => ?_)
      refine ee_aload_n 0 dW_pass_97 rfl ?_
      refine ee_getR dW_pass_98 lfW_29 (fun v98 _ => ?_)
      refine ee_getR dW_pass_101 lfW_218 (fun v101 _ => ?_)
      refine ee_iload_n 1 dW_pass_104 rfl ?_
      refine ee_iload 3 dW_pass_105 rfl ?_
      refine ee_iadd dW_pass_107 ?_
      refine ee_bind (fun _ ho108 => ?_)
      refine ee_callV (as := [.int (l1 + l4)]) (st := [.ref v94]) dW_pass_108 (t_fBytes_get v101 (l1 + l4) w) my_fBytes_get.1 (Nat.le_of_ble_eq_true rfl) my_fBytes_get.2 rfl cf_2.1 rfl (p_obj_eq.mp ho108) gw_1081 gw_459 gw_460 ⟨Nat.le_of_ble_eq_true rfl, Nat.le_of_ble_eq_true rfl⟩ (Nat.le_of_ble_eq_true rfl) (fun rv108 w108 _ => ?_)
      refine ee_kI (fun v108 => ?_)
      refine ee_bind (fun _ ho111 => ?_)
      refine ee_callV (as := [.int v108]) (st := []) dW_pass_111 (t_fBytes_append v94 v108 w108) my_fBytes_append.1 (Nat.le_of_ble_eq_true rfl) my_fBytes_append.2 rfl cf_2.1 rfl (p_obj_eq.mp ho111) gw_1072 gw_378 gw_379 ⟨Nat.le_of_ble_eq_true rfl, Nat.le_of_ble_eq_true rfl⟩ (Nat.le_of_ble_eq_true rfl) (fun rv111 w111 _ => ?_)
      refine ee_kI (fun v111 => ?_)
      refine ee_pop dW_pass_114 rfl ?_
      refine ee_iinc 3 dW_pass_115 rfl (e := (1 : Int32)) (by decide) (Nat.le_of_ble_eq_true rfl) (fun l4_115 _ => ?_)
      refine ee_lv (lv2 := [(4, .int l4_115), (0, .ref l0), (1, .int l1), (3, .int l3)]) rfl ?_
      refine ee_goto (tgt := 87) dW_pass_118 (by decide) ?_
      refine ee_pick [1, 2, 3, 0] rfl ?_
      exact ih _ _ _ _ w111
def fW_pass (l0 : Nat) (l1 : Int32) (l2 : Int32) (w : PW) : PX := if l1 < 0 then (fW_pass_18 w) else ((p_getR w l0 0 3).bind fun v6 => (p_getR w v6 9 0).bind fun v9 => (p_getI w v9 2 2).bind fun v12 => if l1 < v12 then (if 0 ≤ l2 then ((p_getR w l0 0 3).bind fun v44 => (p_getR w v44 9 0).bind fun v47 => (p_getI w v47 2 2).bind fun v50 => p_let ((p_min l2 (v50 - l1))) fun (l3_58 : Int32) => (p_getR w l0 0 4).bind fun v64 => (p_getI w v64 2 2).bind fun v67 => if l3_58 ≤ ((20000 : Int32) - v67) then (fW_pass_87 FUEL l0 l1 l3_58 (0 : Int32) w) else (p_throw "java/lang/UnsupportedOperationException" w)) else (p_throw "java/lang/IllegalArgumentException" w)) else (fW_pass_18 w))
set_option maxRecDepth 20000 in
set_option maxHeartbeats 2000000 in
theorem t_fW_pass {Γ : PG} : ∀ (l0 : Nat) (l1 : Int32) (l2 : Int32) (w : PW), EE Γ MW_pass 0 (lv_args 0 [.ref l0, .int l1, .int l2]) [] w (fW_pass l0 l1 l2 w) := by
  intro l0 l1 l2 w
  unfold fW_pass
  show EE Γ MW_pass 0 [(0, .ref l0), (1, .int l1), (2, .int l2)] [] w _
  refine ee_iload_n 1 dW_pass_0 rfl ?_
  refine ee_if_lt (tgt := 18) dW_pass_1 (by decide) (fun h1 => ?_) (fun h1 => ?_)
  · refine ee_pick [] rfl ?_
    exact t_fW_pass_18 w
  · refine ee_iload_n 1 dW_pass_4 rfl ?_
    refine ee_aload_n 0 dW_pass_5 rfl ?_
    refine ee_getR dW_pass_6 lfW_29 (fun v6 _ => ?_)
    refine ee_getR dW_pass_9 lfW_218 (fun v9 _ => ?_)
    refine ee_getI dW_pass_12 lfW_180 (fun v12 _ => ?_)
    refine ee_icmp_lt (tgt := 28) dW_pass_15 (by decide) (fun h15 => ?_) (fun h15 => ?_)
    · refine ee_iload_n 2 dW_pass_28 rfl ?_
      refine ee_if_ge (tgt := 42) dW_pass_29 (by decide) (fun h29 => ?_) (fun h29 => ?_)
      · refine ee_iload_n 2 dW_pass_42 rfl ?_
        refine ee_aload_n 0 dW_pass_43 rfl ?_
        refine ee_getR dW_pass_44 lfW_29 (fun v44 _ => ?_)
        refine ee_getR dW_pass_47 lfW_218 (fun v47 _ => ?_)
        refine ee_getI dW_pass_50 lfW_180 (fun v50 _ => ?_)
        refine ee_iload_n 1 dW_pass_53 rfl ?_
        refine ee_isub dW_pass_54 ?_
        refine ee_mmin dW_pass_55 gw_299 gw_mmins gw_mi gw_mminc ⟨Nat.le_of_ble_eq_true rfl, Nat.le_of_ble_eq_true rfl⟩ ?_
        refine ee_letI (fun l3_58 _ => ?_)
        refine ee_istore_n (lv2 := [(3, .int l3_58), (0, .ref l0), (1, .int l1), (2, .int l2)]) dW_pass_58 (Nat.le_of_ble_eq_true rfl) rfl ?_
        refine ee_iload_n 0 dW_pass_59 rfl ?_
        refine ee_sipush (v := (20000 : Int32)) dW_pass_60 (by decide) ?_
        refine ee_aload_n 1 dW_pass_63 rfl ?_
        refine ee_getR dW_pass_64 lfW_38 (fun v64 _ => ?_)
        refine ee_getI dW_pass_67 lfW_180 (fun v67 _ => ?_)
        refine ee_isub dW_pass_70 ?_
        refine ee_icmp_le (tgt := 84) dW_pass_71 (by decide) (fun h71 => ?_) (fun h71 => ?_)
        · refine ee_iconst (v := (0 : Int32)) dW_pass_84 (by decide) ?_
          refine ee_istore (lv2 := [(4, .int (0 : Int32)), (3, .int l3_58), (0, .ref l0), (1, .int l1), (2, .int l2)]) dW_pass_85 (Nat.le_of_ble_eq_true rfl) rfl ?_
          refine ee_pick [2, 3, 1, 0] rfl ?_
          exact t_fW_pass_87 FUEL _ _ _ _ w
        · exact ee_throw (text := "no room for so many bytes") (names := ["java/lang/RuntimeException", "java/lang/Exception"]) (L4 := 6) (Or.inl rfl) dW_pass_74 dW_pass_77 (fun _ _ _ _ _ _ _ _ _ _ _ _ _ _ _ _ hx hb ho hz k => va_ldcS hx hb ho hz dW_pass_78 k) dW_pass_80 dW_pass_83 (by decide) (by decide) gw_887 gw_72 oa_140 rfl (by decide +kernel) ⟨Nat.le_of_ble_eq_true rfl, Nat.le_of_ble_eq_true rfl⟩
      · exact ee_throw (text := "fewer than no bytes") (names := ["java/lang/RuntimeException", "java/lang/Exception"]) (L4 := 6) (Or.inl rfl) dW_pass_32 dW_pass_35 (fun _ _ _ _ _ _ _ _ _ _ _ _ _ _ _ _ hx hb ho hz k => va_ldcS hx hb ho hz dW_pass_36 k) dW_pass_38 dW_pass_41 (by decide) (by decide) gw_852 gw_71 oa_118 rfl (by decide +kernel) ⟨Nat.le_of_ble_eq_true rfl, Nat.le_of_ble_eq_true rfl⟩
    · refine ee_pick [] rfl ?_
      exact t_fW_pass_18 w
def fW_alter_15 (w : PW) : PX := p_throw "java/lang/IndexOutOfBoundsException" w
set_option maxRecDepth 20000 in
set_option maxHeartbeats 2000000 in
theorem t_fW_alter_15 {Γ : PG} : ∀ (w : PW), EE Γ MW_alter 15 [] [] w (fW_alter_15 w) := by
  intro w
  unfold fW_alter_15
  exact ee_throw (text := "no such byte") (names := ["java/lang/RuntimeException", "java/lang/Exception"]) (L4 := 6) (Or.inl rfl) dW_alter_15 dW_alter_18 (fun _ _ _ _ _ _ _ _ _ _ _ _ _ _ _ _ hx hb ho hz k => va_ldcS hx hb ho hz dW_alter_19 k) dW_alter_21 dW_alter_24 (by decide) (by decide) gw_755 gw_69 oa_95 rfl (by decide +kernel) ⟨Nat.le_of_ble_eq_true rfl, Nat.le_of_ble_eq_true rfl⟩
def fW_alter (l0 : Nat) (l1 : Int32) (l2 : Int32) (w : PW) : PX := if l1 < 0 then (fW_alter_15 w) else ((p_getR w l0 0 4).bind fun v6 => (p_getI w v6 2 2).bind fun v9 => if l1 < v9 then (p_call (fW_isByte l2 w) <| p_kI fun v26 w26 => if ¬ v26 = 0 then ((p_getR w26 l0 0 4).bind fun v43 => (p_obj w26 v43 2).bind fun _ => p_call (fBytes_get v43 l1 w26) <| p_kI fun v47 w47 => (p_getR w47 l0 0 4).bind fun v52 => (p_obj w47 v52 2).bind fun _ => p_call (fBytes_put v52 l1 l2 w47) <| p_kV fun w57 => some (.inl (some (.int v47)), w57)) else (p_throw "java/lang/IllegalArgumentException" w26)) else (fW_alter_15 w))
set_option maxRecDepth 20000 in
set_option maxHeartbeats 2000000 in
theorem t_fW_alter {Γ : PG} : ∀ (l0 : Nat) (l1 : Int32) (l2 : Int32) (w : PW), EE Γ MW_alter 0 (lv_args 0 [.ref l0, .int l1, .int l2]) [] w (fW_alter l0 l1 l2 w) := by
  intro l0 l1 l2 w
  unfold fW_alter
  show EE Γ MW_alter 0 [(0, .ref l0), (1, .int l1), (2, .int l2)] [] w _
  refine ee_iload_n 1 dW_alter_0 rfl ?_
  refine ee_if_lt (tgt := 15) dW_alter_1 (by decide) (fun h1 => ?_) (fun h1 => ?_)
  · refine ee_pick [] rfl ?_
    exact t_fW_alter_15 w
  · refine ee_iload_n 1 dW_alter_4 rfl ?_
    refine ee_aload_n 0 dW_alter_5 rfl ?_
    refine ee_getR dW_alter_6 lfW_38 (fun v6 _ => ?_)
    refine ee_getI dW_alter_9 lfW_180 (fun v9 _ => ?_)
    refine ee_icmp_lt (tgt := 25) dW_alter_12 (by decide) (fun h12 => ?_) (fun h12 => ?_)
    · refine ee_iload_n 2 dW_alter_25 rfl ?_
      refine ee_callS (as := [.int l2]) (st := []) dW_alter_26 (t_fW_isByte l2 w) my_fW_isByte.1 (Nat.le_of_ble_eq_true rfl) my_fW_isByte.2 rfl gw_1012 gw_1013 ⟨Nat.le_of_ble_eq_true rfl, Nat.le_of_ble_eq_true rfl⟩ (Nat.le_of_ble_eq_true rfl) (fun rv26 w26 _ => ?_)
      refine ee_kI (fun v26 => ?_)
      refine ee_if_ne (tgt := 42) dW_alter_29 (by decide) (fun h29 => ?_) (fun h29 => ?_)
      · refine ee_aload_n 0 dW_alter_42 rfl ?_
        refine ee_getR dW_alter_43 lfW_38 (fun v43 _ => ?_)
        refine ee_iload_n 1 dW_alter_46 rfl ?_
        refine ee_bind (fun _ ho47 => ?_)
        refine ee_callV (as := [.int l1]) (st := []) dW_alter_47 (t_fBytes_get v43 l1 w26) my_fBytes_get.1 (Nat.le_of_ble_eq_true rfl) my_fBytes_get.2 rfl cf_2.1 rfl (p_obj_eq.mp ho47) gw_1081 gw_459 gw_460 ⟨Nat.le_of_ble_eq_true rfl, Nat.le_of_ble_eq_true rfl⟩ (Nat.le_of_ble_eq_true rfl) (fun rv47 w47 _ => ?_)
        refine ee_kI (fun v47 => ?_)
        refine ee_istore_n (lv2 := [(3, .int v47), (0, .ref l0), (1, .int l1), (2, .int l2)]) dW_alter_50 (Nat.le_of_ble_eq_true rfl) rfl ?_
        refine ee_aload_n 1 dW_alter_51 rfl ?_
        refine ee_getR dW_alter_52 lfW_38 (fun v52 _ => ?_)
        refine ee_iload_n 2 dW_alter_55 rfl ?_
        refine ee_iload_n 3 dW_alter_56 rfl ?_
        refine ee_bind (fun _ ho57 => ?_)
        refine ee_callV (as := [.int l1, .int l2]) (st := []) dW_alter_57 (t_fBytes_put v52 l1 l2 w47) my_fBytes_put.1 (Nat.le_of_ble_eq_true rfl) my_fBytes_put.2 rfl cf_2.1 rfl (p_obj_eq.mp ho57) gw_1105 gw_406 gw_407 ⟨Nat.le_of_ble_eq_true rfl, Nat.le_of_ble_eq_true rfl⟩ (Nat.le_of_ble_eq_true rfl) (fun rv57 w57 _ => ?_)
        refine ee_kV ?_
        refine ee_iload_n 0 dW_alter_60 rfl ?_
        exact ee_iret rfl dW_alter_61
      · exact ee_throw (text := "no byte") (names := ["java/lang/RuntimeException", "java/lang/Exception"]) (L4 := 6) (Or.inl rfl) dW_alter_32 dW_alter_35 (fun _ _ _ _ _ _ _ _ _ _ _ _ _ _ _ _ hx hb ho hz k => va_ldcS hx hb ho hz dW_alter_36 k) dW_alter_38 dW_alter_41 (by decide) (by decide) gw_852 gw_71 oa_118 rfl (by decide +kernel) ⟨Nat.le_of_ble_eq_true rfl, Nat.le_of_ble_eq_true rfl⟩
    · refine ee_pick [] rfl ?_
      exact t_fW_alter_15 w
def fW_cut (l0 : Nat) (l1 : Int32) (w : PW) : PX := if 0 ≤ l1 then ((p_getR w l0 0 4).bind fun v15 => (p_getR w l0 0 4).bind fun v20 => (p_getI w v20 2 2).bind fun v23 => (p_put w v15 2 2 (.int (p_min l1 v23))).bind fun w29 => (p_getR w29 l0 0 4).bind fun v33 => (p_getI w29 v33 2 2).bind fun v36 => some (.inl (some (.int v36)), w29)) else (p_throw "java/lang/IllegalArgumentException" w)
set_option maxRecDepth 20000 in
set_option maxHeartbeats 2000000 in
theorem t_fW_cut {Γ : PG} : ∀ (l0 : Nat) (l1 : Int32) (w : PW), EE Γ MW_cut 0 (lv_args 0 [.ref l0, .int l1]) [] w (fW_cut l0 l1 w) := by
  intro l0 l1 w
  unfold fW_cut
  show EE Γ MW_cut 0 [(0, .ref l0), (1, .int l1)] [] w _
  refine ee_iload_n 1 dW_cut_0 rfl ?_
  refine ee_if_ge (tgt := 14) dW_cut_1 (by decide) (fun h1 => ?_) (fun h1 => ?_)
  · refine ee_aload_n 0 dW_cut_14 rfl ?_
    refine ee_getR dW_cut_15 lfW_38 (fun v15 _ => ?_)
    refine ee_iload_n 1 dW_cut_18 rfl ?_
    refine ee_aload_n 0 dW_cut_19 rfl ?_
    refine ee_getR dW_cut_20 lfW_38 (fun v20 _ => ?_)
    refine ee_getI dW_cut_23 lfW_180 (fun v23 _ => ?_)
    refine ee_mmin dW_cut_26 gw_299 gw_mmins gw_mi gw_mminc ⟨Nat.le_of_ble_eq_true rfl, Nat.le_of_ble_eq_true rfl⟩ ?_
    refine ee_put dW_cut_29 lpW_180 (ee_nI _) (fun w29 _ => ?_)
    refine ee_aload_n 0 dW_cut_32 rfl ?_
    refine ee_getR dW_cut_33 lfW_38 (fun v33 _ => ?_)
    refine ee_getI dW_cut_36 lfW_180 (fun v36 _ => ?_)
    exact ee_iret rfl dW_cut_39
  · exact ee_throw (text := "fewer than no bytes") (names := ["java/lang/RuntimeException", "java/lang/Exception"]) (L4 := 6) (Or.inl rfl) dW_cut_4 dW_cut_7 (fun _ _ _ _ _ _ _ _ _ _ _ _ _ _ _ _ hx hb ho hz k => va_ldcS hx hb ho hz dW_cut_8 k) dW_cut_10 dW_cut_13 (by decide) (by decide) gw_852 gw_71 oa_118 rfl (by decide +kernel) ⟨Nat.le_of_ble_eq_true rfl, Nat.le_of_ble_eq_true rfl⟩
def fW_forgetReading (l0 : Nat) (w : PW) : PX := if ¬ ((0 : Int32) = 0 ∨ (0 : Int32) = 1) then none else (p_put w l0 0 10 (.int (0 : Int32))).bind fun w2 => (p_getR w2 l0 0 7).bind fun v6 => (p_obj w2 v6 1).bind fun _ => p_call (fBoxReader_forget v6 w2) <| p_kV fun w9 => (p_getR w9 l0 0 6).bind fun v13 => (p_obj w9 v13 7).bind fun _ => p_call (fSettings_forgetSegments v13 w9) <| p_kV fun w16 => (p_getR w16 l0 0 9).bind fun v20 => (p_obj w16 v20 6).bind fun _ => p_call (fPartReader_forget v20 w16) <| p_kV fun w23 => some (.inl none, w23)
set_option maxRecDepth 20000 in
set_option maxHeartbeats 2000000 in
theorem t_fW_forgetReading {Γ : PG} : ∀ (l0 : Nat) (w : PW), EE Γ MW_forgetReading 0 (lv_args 0 [.ref l0]) [] w (fW_forgetReading l0 w) := by
  intro l0 w
  unfold fW_forgetReading
  show EE Γ MW_forgetReading 0 [(0, .ref l0)] [] w _
  refine ee_aload_n 0 dW_forgetReading_0 rfl ?_
  refine ee_iconst (v := (0 : Int32)) dW_forgetReading_1 (by decide) ?_
  refine ee_ite (fun _ => ee_none) (fun hz2 => ?_)
  refine ee_put dW_forgetReading_2 lpW_75 (ee_nZ _ (Classical.byContradiction hz2)) (fun w2 _ => ?_)
  refine ee_aload_n 0 dW_forgetReading_5 rfl ?_
  refine ee_getR dW_forgetReading_6 lfW_53 (fun v6 _ => ?_)
  refine ee_bind (fun _ ho9 => ?_)
  refine ee_callV (as := []) (st := []) dW_forgetReading_9 (t_fBoxReader_forget v6 w2) my_fBoxReader_forget.1 (Nat.le_of_ble_eq_true rfl) my_fBoxReader_forget.2 rfl cf_1.1 rfl (p_obj_eq.mp ho9) gw_514 gw_515 gw_516 ⟨Nat.le_of_ble_eq_true rfl, Nat.le_of_ble_eq_true rfl⟩ (Nat.le_of_ble_eq_true rfl) (fun rv9 w9 _ => ?_)
  refine ee_kV ?_
  refine ee_aload_n 0 dW_forgetReading_12 rfl ?_
  refine ee_getR dW_forgetReading_13 lfW_45 (fun v13 _ => ?_)
  refine ee_bind (fun _ ho16 => ?_)
  refine ee_callV (as := []) (st := []) dW_forgetReading_16 (t_fSettings_forgetSegments v13 w9) my_fSettings_forgetSegments.1 (Nat.le_of_ble_eq_true rfl) my_fSettings_forgetSegments.2 rfl cf_7.1 rfl (p_obj_eq.mp ho16) gw_518 gw_312 gw_313 ⟨Nat.le_of_ble_eq_true rfl, Nat.le_of_ble_eq_true rfl⟩ (Nat.le_of_ble_eq_true rfl) (fun rv16 w16 _ => ?_)
  refine ee_kV ?_
  refine ee_aload_n 0 dW_forgetReading_19 rfl ?_
  refine ee_getR dW_forgetReading_20 lfW_71 (fun v20 _ => ?_)
  refine ee_bind (fun _ ho23 => ?_)
  refine ee_callV (as := []) (st := []) dW_forgetReading_23 (t_fPartReader_forget v20 w16) my_fPartReader_forget.1 (Nat.le_of_ble_eq_true rfl) my_fPartReader_forget.2 rfl cf_6.1 rfl (p_obj_eq.mp ho23) gw_519 gw_520 gw_521 ⟨Nat.le_of_ble_eq_true rfl, Nat.le_of_ble_eq_true rfl⟩ (Nat.le_of_ble_eq_true rfl) (fun rv23 w23 _ => ?_)
  refine ee_kV ?_
  exact ee_vret rfl dW_forgetReading_26
def fW_read_50 (l0 : Nat) (l1 : Int32) (w : PW) : PX := if l1 = (-1 : Int32) then ((p_getR w l0 0 9).bind fun v60 => (p_getR w l0 0 8).bind fun v64 => (p_getI w v64 3 2).bind fun v67 => (p_getR w l0 0 7).bind fun v71 => (p_getI w v71 1 5).bind fun v74 => (p_obj w v60 6).bind fun _ => p_call (fPartReader_readParts v60 v67 v74 w) <| p_kV fun w77 => if ¬ ((1 : Int32) = 0 ∨ (1 : Int32) = 1) then none else (p_put w77 l0 0 10 (.int (1 : Int32))).bind fun w82 => (p_getR w82 l0 0 9).bind fun v86 => (p_getI w82 v86 6 12).bind fun v89 => some (.inl (some (.int v89)), w82)) else (some (.inl (some (.int ((-1 : Int32) - l1))), w))
set_option maxRecDepth 20000 in
set_option maxHeartbeats 2000000 in
theorem t_fW_read_50 {Γ : PG} : ∀ (l0 : Nat) (l1 : Int32) (w : PW), EE Γ MW_read 50 [(0, .ref l0), (1, .int l1)] [] w (fW_read_50 l0 l1 w) := by
  intro l0 l1 w
  unfold fW_read_50
  refine ee_iload_n 1 dW_read_50 rfl ?_
  refine ee_iconst (v := (-1 : Int32)) dW_read_51 (by decide) ?_
  refine ee_icmp_eq (tgt := 59) dW_read_52 (by decide) (fun h52 => ?_) (fun h52 => ?_)
  · refine ee_aload_n 0 dW_read_59 rfl ?_
    refine ee_getR dW_read_60 lfW_71 (fun v60 _ => ?_)
    refine ee_aload_n 0 dW_read_63 rfl ?_
    refine ee_getR dW_read_64 lfW_62 (fun v64 _ => ?_)
    refine ee_getI dW_read_67 lfW_256 (fun v67 _ => ?_)
    refine ee_aload_n 0 dW_read_70 rfl ?_
    refine ee_getR dW_read_71 lfW_53 (fun v71 _ => ?_)
    refine ee_getI dW_read_74 lfW_250 (fun v74 _ => ?_)
    refine ee_bind (fun _ ho77 => ?_)
    refine ee_callV (as := [.int v67, .int v74]) (st := []) dW_read_77 (t_fPartReader_readParts v60 v67 v74 w) my_fPartReader_readParts.1 (Nat.le_of_ble_eq_true rfl) my_fPartReader_readParts.2 rfl cf_6.1 rfl (p_obj_eq.mp ho77) gw_664 gw_665 gw_666 ⟨Nat.le_of_ble_eq_true rfl, Nat.le_of_ble_eq_true rfl⟩ (Nat.le_of_ble_eq_true rfl) (fun rv77 w77 _ => ?_)
    refine ee_kV ?_
    refine ee_aload_n 0 dW_read_80 rfl ?_
    refine ee_iconst (v := (1 : Int32)) dW_read_81 (by decide) ?_
    refine ee_ite (fun _ => ee_none) (fun hz82 => ?_)
    refine ee_put dW_read_82 lpW_75 (ee_nZ _ (Classical.byContradiction hz82)) (fun w82 _ => ?_)
    refine ee_aload_n 0 dW_read_85 rfl ?_
    refine ee_getR dW_read_86 lfW_71 (fun v86 _ => ?_)
    refine ee_getI dW_read_89 lfW_262 (fun v89 _ => ?_)
    exact ee_iret rfl dW_read_92
  · refine ee_iconst (v := (-1 : Int32)) dW_read_55 (by decide) ?_
    refine ee_iload_n 1 dW_read_56 rfl ?_
    refine ee_isub dW_read_57 ?_
    exact ee_iret rfl dW_read_58
def fW_read (l0 : Nat) (w : PW) : PX := (p_obj w l0 0).bind fun _ => p_call (fW_forgetReading l0 w) <| p_kV fun w1 => (p_getR w1 l0 0 5).bind fun v5 => (p_getR w1 l0 0 4).bind fun v9 => (p_obj w1 v5 2).bind fun _ => p_call (fBytes_copy v5 v9 w1) <| p_kV fun w12 => (p_getR w12 l0 0 7).bind fun v16 => (p_obj w12 v16 1).bind fun _ => p_call (fBoxReader_findStream v16 w12) <| p_kI fun v19 w19 => if ¬ v19 = (-1 : Int32) then (fW_read_50 l0 v19 w19) else ((p_getR w19 l0 0 8).bind fun v29 => (p_getR w19 l0 0 7).bind fun v33 => (p_getI w19 v33 1 4).bind fun v36 => (p_getR w19 l0 0 7).bind fun v40 => (p_getI w19 v40 1 5).bind fun v43 => (p_obj w19 v29 3).bind fun _ => p_call (fHeadReader_readHead v29 v36 v43 w19) <| p_kI fun v46 w46 => fW_read_50 l0 v46 w46)
set_option maxRecDepth 20000 in
set_option maxHeartbeats 2000000 in
theorem t_fW_read {Γ : PG} : ∀ (l0 : Nat) (w : PW), EE Γ MW_read 0 (lv_args 0 [.ref l0]) [] w (fW_read l0 w) := by
  intro l0 w
  unfold fW_read
  show EE Γ MW_read 0 [(0, .ref l0)] [] w _
  refine ee_aload_n 0 dW_read_0 rfl ?_
  refine ee_bind (fun _ ho1 => ?_)
  refine ee_callV (as := []) (st := []) dW_read_1 (t_fW_forgetReading l0 w) my_fW_forgetReading.1 (Nat.le_of_ble_eq_true rfl) my_fW_forgetReading.2 rfl cf_0.1 rfl (p_obj_eq.mp ho1) gw_510 gw_512 gw_0 ⟨Nat.le_of_ble_eq_true rfl, Nat.le_of_ble_eq_true rfl⟩ (Nat.le_of_ble_eq_true rfl) (fun rv1 w1 _ => ?_)
  refine ee_kV ?_
  refine ee_aload_n 0 dW_read_4 rfl ?_
  refine ee_getR dW_read_5 lfW_42 (fun v5 _ => ?_)
  refine ee_aload_n 0 dW_read_8 rfl ?_
  refine ee_getR dW_read_9 lfW_38 (fun v9 _ => ?_)
  refine ee_bind (fun _ ho12 => ?_)
  refine ee_callV (as := [.ref v9]) (st := []) dW_read_12 (t_fBytes_copy v5 v9 w1) my_fBytes_copy.1 (Nat.le_of_ble_eq_true rfl) my_fBytes_copy.2 rfl cf_2.1 rfl (p_obj_eq.mp ho12) gw_523 gw_524 gw_525 ⟨Nat.le_of_ble_eq_true rfl, Nat.le_of_ble_eq_true rfl⟩ (Nat.le_of_ble_eq_true rfl) (fun rv12 w12 _ => ?_)
  refine ee_kV ?_
  refine ee_aload_n 0 dW_read_15 rfl ?_
  refine ee_getR dW_read_16 lfW_53 (fun v16 _ => ?_)
  refine ee_bind (fun _ ho19 => ?_)
  refine ee_callV (as := []) (st := []) dW_read_19 (t_fBoxReader_findStream v16 w12) my_fBoxReader_findStream.1 (Nat.le_of_ble_eq_true rfl) my_fBoxReader_findStream.2 rfl cf_1.1 rfl (p_obj_eq.mp ho19) gw_528 gw_529 gw_530 ⟨Nat.le_of_ble_eq_true rfl, Nat.le_of_ble_eq_true rfl⟩ (Nat.le_of_ble_eq_true rfl) (fun rv19 w19 _ => ?_)
  refine ee_kI (fun v19 => ?_)
  refine ee_istore_n (lv2 := [(1, .int v19), (0, .ref l0)]) dW_read_22 (Nat.le_of_ble_eq_true rfl) rfl ?_
  refine ee_iload_n 0 dW_read_23 rfl ?_
  refine ee_iconst (v := (-1 : Int32)) dW_read_24 (by decide) ?_
  refine ee_icmp_ne (tgt := 50) dW_read_25 (by decide) (fun h25 => ?_) (fun h25 => ?_)
  · refine ee_pick [1, 0] rfl ?_
    exact t_fW_read_50 _ _ w19
  · refine ee_aload_n 1 dW_read_28 rfl ?_
    refine ee_getR dW_read_29 lfW_62 (fun v29 _ => ?_)
    refine ee_aload_n 1 dW_read_32 rfl ?_
    refine ee_getR dW_read_33 lfW_53 (fun v33 _ => ?_)
    refine ee_getI dW_read_36 lfW_247 (fun v36 _ => ?_)
    refine ee_aload_n 1 dW_read_39 rfl ?_
    refine ee_getR dW_read_40 lfW_53 (fun v40 _ => ?_)
    refine ee_getI dW_read_43 lfW_250 (fun v43 _ => ?_)
    refine ee_bind (fun _ ho46 => ?_)
    refine ee_callV (as := [.int v36, .int v43]) (st := []) dW_read_46 (t_fHeadReader_readHead v29 v36 v43 w19) my_fHeadReader_readHead.1 (Nat.le_of_ble_eq_true rfl) my_fHeadReader_readHead.2 rfl cf_3.1 rfl (p_obj_eq.mp ho46) gw_585 gw_586 gw_587 ⟨Nat.le_of_ble_eq_true rfl, Nat.le_of_ble_eq_true rfl⟩ (Nat.le_of_ble_eq_true rfl) (fun rv46 w46 _ => ?_)
    refine ee_kI (fun v46 => ?_)
    refine ee_istore_n (lv2 := [(1, .int v46), (0, .ref l0)]) dW_read_49 (Nat.le_of_ble_eq_true rfl) rfl ?_
    refine ee_pick [1, 0] rfl ?_
    exact t_fW_read_50 _ _ w46
def fW_canBeAsked_74 (l4 : Int32) (s0 : Int32) (w : PW) : PX := if l4 = 0 then (p_retZ (0 : Int32) w) else (if s0 = 0 then (p_retZ (0 : Int32) w) else (p_retZ (1 : Int32) w))
set_option maxRecDepth 20000 in
set_option maxHeartbeats 2000000 in
theorem t_fW_canBeAsked_74 {Γ : PG} : ∀ (l4 : Int32) (s0 : Int32) (w : PW), EE Γ MW_canBeAsked 74 [(4, .int l4)] [.int s0] w (fW_canBeAsked_74 l4 s0 w) := by
  intro l4 s0 w
  unfold fW_canBeAsked_74
  refine ee_istore (lv2 := [(5, .int s0), (4, .int l4)]) dW_canBeAsked_74 (Nat.le_of_ble_eq_true rfl) rfl ?_
  refine ee_iload 1 dW_canBeAsked_76 rfl ?_
  refine ee_if_eq (tgt := 90) dW_canBeAsked_78 (by decide) (fun h78 => ?_) (fun h78 => ?_)
  · refine ee_iconst (v := (0 : Int32)) dW_canBeAsked_90 (by decide) ?_
    exact ee_zret rfl dW_canBeAsked_91
  · refine ee_iload 0 dW_canBeAsked_81 rfl ?_
    refine ee_if_eq (tgt := 90) dW_canBeAsked_83 (by decide) (fun h83 => ?_) (fun h83 => ?_)
    · refine ee_iconst (v := (0 : Int32)) dW_canBeAsked_90 (by decide) ?_
      exact ee_zret rfl dW_canBeAsked_91
    · refine ee_iconst (v := (1 : Int32)) dW_canBeAsked_86 (by decide) ?_
      refine ee_goto (tgt := 91) dW_canBeAsked_87 (by decide) ?_
      exact ee_zret rfl dW_canBeAsked_91
def fW_canBeAsked_46 (l0 : Nat) (l1 : Int32) (l3 : Int32) (s0 : Int32) (w : PW) : PX := if l1 = (4 : Int32) then (fW_canBeAsked_74 s0 (1 : Int32) w) else (if l1 = (5 : Int32) then (fW_canBeAsked_74 s0 (1 : Int32) w) else ((p_getR w l0 0 6).bind fun v59 => (p_obj w v59 7).bind fun _ => p_call (fSettings_isComponent v59 l3 w) <| p_kI fun v63 w63 => if v63 = 0 then (fW_canBeAsked_74 s0 (0 : Int32) w63) else (fW_canBeAsked_74 s0 (1 : Int32) w63)))
set_option maxRecDepth 20000 in
set_option maxHeartbeats 2000000 in
theorem t_fW_canBeAsked_46 {Γ : PG} : ∀ (l0 : Nat) (l1 : Int32) (l3 : Int32) (s0 : Int32) (w : PW), EE Γ MW_canBeAsked 46 [(0, .ref l0), (1, .int l1), (3, .int l3)] [.int s0] w (fW_canBeAsked_46 l0 l1 l3 s0 w) := by
  intro l0 l1 l3 s0 w
  unfold fW_canBeAsked_46
  refine ee_istore (lv2 := [(4, .int s0), (0, .ref l0), (1, .int l1), (3, .int l3)]) dW_canBeAsked_46 (Nat.le_of_ble_eq_true rfl) rfl ?_
  refine ee_iload_n 2 dW_canBeAsked_48 rfl ?_
  refine ee_iconst (v := (4 : Int32)) dW_canBeAsked_49 (by decide) ?_
  refine ee_icmp_eq (tgt := 69) dW_canBeAsked_50 (by decide) (fun h50 => ?_) (fun h50 => ?_)
  · refine ee_iconst (v := (1 : Int32)) dW_canBeAsked_69 (by decide) ?_
    refine ee_goto (tgt := 74) dW_canBeAsked_70 (by decide) ?_
    refine ee_pick [0] rfl ?_
    exact t_fW_canBeAsked_74 _ _ w
  · refine ee_iload_n 2 dW_canBeAsked_53 rfl ?_
    refine ee_iconst (v := (5 : Int32)) dW_canBeAsked_54 (by decide) ?_
    refine ee_icmp_eq (tgt := 69) dW_canBeAsked_55 (by decide) (fun h55 => ?_) (fun h55 => ?_)
    · refine ee_iconst (v := (1 : Int32)) dW_canBeAsked_69 (by decide) ?_
      refine ee_goto (tgt := 74) dW_canBeAsked_70 (by decide) ?_
      refine ee_pick [0] rfl ?_
      exact t_fW_canBeAsked_74 _ _ w
    · refine ee_aload_n 1 dW_canBeAsked_58 rfl ?_
      refine ee_getR dW_canBeAsked_59 lfW_45 (fun v59 _ => ?_)
      refine ee_iload_n 3 dW_canBeAsked_62 rfl ?_
      refine ee_bind (fun _ ho63 => ?_)
      refine ee_callV (as := [.int l3]) (st := []) dW_canBeAsked_63 (t_fSettings_isComponent v59 l3 w) my_fSettings_isComponent.1 (Nat.le_of_ble_eq_true rfl) my_fSettings_isComponent.2 rfl cf_7.1 rfl (p_obj_eq.mp ho63) gw_754 gw_657 gw_658 ⟨Nat.le_of_ble_eq_true rfl, Nat.le_of_ble_eq_true rfl⟩ (Nat.le_of_ble_eq_true rfl) (fun rv63 w63 _ => ?_)
      refine ee_kI (fun v63 => ?_)
      refine ee_if_eq (tgt := 73) dW_canBeAsked_66 (by decide) (fun h66 => ?_) (fun h66 => ?_)
      · refine ee_iconst (v := (0 : Int32)) dW_canBeAsked_73 (by decide) ?_
        refine ee_pick [0] rfl ?_
        exact t_fW_canBeAsked_74 _ _ w63
      · refine ee_iconst (v := (1 : Int32)) dW_canBeAsked_69 (by decide) ?_
        refine ee_goto (tgt := 74) dW_canBeAsked_70 (by decide) ?_
        refine ee_pick [0] rfl ?_
        exact t_fW_canBeAsked_74 _ _ w63
def fW_canBeAsked (l0 : Nat) (l1 : Int32) (l2 : Int32) (l3 : Int32) (w : PW) : PX := if l1 < 0 then (p_retZ (0 : Int32) w) else (if l1 ≤ (11 : Int32) then (if l1 ≤ (2 : Int32) then (p_retZ (1 : Int32) w) else (if ¬ l1 = (11 : Int32) then (if l1 = (3 : Int32) then (fW_canBeAsked_46 l0 l1 l3 (1 : Int32) w) else ((p_getR w l0 0 6).bind fun v31 => (p_obj w v31 7).bind fun _ => p_call (fSettings_isTile v31 l2 w) <| p_kI fun v35 w35 => if v35 = 0 then (fW_canBeAsked_46 l0 l1 l3 (0 : Int32) w35) else (fW_canBeAsked_46 l0 l1 l3 (1 : Int32) w35))) else (p_retZ (1 : Int32) w))) else (p_retZ (0 : Int32) w))
set_option maxRecDepth 20000 in
set_option maxHeartbeats 2000000 in
theorem t_fW_canBeAsked {Γ : PG} : ∀ (l0 : Nat) (l1 : Int32) (l2 : Int32) (l3 : Int32) (w : PW), EE Γ MW_canBeAsked 0 (lv_args 0 [.ref l0, .int l1, .int l2, .int l3]) [] w (fW_canBeAsked l0 l1 l2 l3 w) := by
  intro l0 l1 l2 l3 w
  unfold fW_canBeAsked
  show EE Γ MW_canBeAsked 0 [(0, .ref l0), (1, .int l1), (2, .int l2), (3, .int l3)] [] w _
  refine ee_iload_n 1 dW_canBeAsked_0 rfl ?_
  refine ee_if_lt (tgt := 10) dW_canBeAsked_1 (by decide) (fun h1 => ?_) (fun h1 => ?_)
  · refine ee_iconst (v := (0 : Int32)) dW_canBeAsked_10 (by decide) ?_
    exact ee_zret rfl dW_canBeAsked_11
  · refine ee_iload_n 1 dW_canBeAsked_4 rfl ?_
    refine ee_bipush (v := (11 : Int32)) dW_canBeAsked_5 (by decide) ?_
    refine ee_icmp_le (tgt := 12) dW_canBeAsked_7 (by decide) (fun h7 => ?_) (fun h7 => ?_)
    · refine ee_iload_n 1 dW_canBeAsked_12 rfl ?_
      refine ee_iconst (v := (2 : Int32)) dW_canBeAsked_13 (by decide) ?_
      refine ee_icmp_le (tgt := 23) dW_canBeAsked_14 (by decide) (fun h14 => ?_) (fun h14 => ?_)
      · refine ee_iconst (v := (1 : Int32)) dW_canBeAsked_23 (by decide) ?_
        exact ee_zret rfl dW_canBeAsked_24
      · refine ee_iload_n 1 dW_canBeAsked_17 rfl ?_
        refine ee_bipush (v := (11 : Int32)) dW_canBeAsked_18 (by decide) ?_
        refine ee_icmp_ne (tgt := 25) dW_canBeAsked_20 (by decide) (fun h20 => ?_) (fun h20 => ?_)
        · refine ee_iload_n 1 dW_canBeAsked_25 rfl ?_
          refine ee_iconst (v := (3 : Int32)) dW_canBeAsked_26 (by decide) ?_
          refine ee_icmp_eq (tgt := 41) dW_canBeAsked_27 (by decide) (fun h27 => ?_) (fun h27 => ?_)
          · refine ee_iconst (v := (1 : Int32)) dW_canBeAsked_41 (by decide) ?_
            refine ee_goto (tgt := 46) dW_canBeAsked_42 (by decide) ?_
            refine ee_pick [0, 1, 3] rfl ?_
            exact t_fW_canBeAsked_46 _ _ _ _ w
          · refine ee_aload_n 0 dW_canBeAsked_30 rfl ?_
            refine ee_getR dW_canBeAsked_31 lfW_45 (fun v31 _ => ?_)
            refine ee_iload_n 2 dW_canBeAsked_34 rfl ?_
            refine ee_bind (fun _ ho35 => ?_)
            refine ee_callV (as := [.int l2]) (st := []) dW_canBeAsked_35 (t_fSettings_isTile v31 l2 w) my_fSettings_isTile.1 (Nat.le_of_ble_eq_true rfl) my_fSettings_isTile.2 rfl cf_7.1 rfl (p_obj_eq.mp ho35) gw_753 gw_681 gw_682 ⟨Nat.le_of_ble_eq_true rfl, Nat.le_of_ble_eq_true rfl⟩ (Nat.le_of_ble_eq_true rfl) (fun rv35 w35 _ => ?_)
            refine ee_kI (fun v35 => ?_)
            refine ee_if_eq (tgt := 45) dW_canBeAsked_38 (by decide) (fun h38 => ?_) (fun h38 => ?_)
            · refine ee_iconst (v := (0 : Int32)) dW_canBeAsked_45 (by decide) ?_
              refine ee_pick [0, 1, 3] rfl ?_
              exact t_fW_canBeAsked_46 _ _ _ _ w35
            · refine ee_iconst (v := (1 : Int32)) dW_canBeAsked_41 (by decide) ?_
              refine ee_goto (tgt := 46) dW_canBeAsked_42 (by decide) ?_
              refine ee_pick [0, 1, 3] rfl ?_
              exact t_fW_canBeAsked_46 _ _ _ _ w35
        · refine ee_iconst (v := (1 : Int32)) dW_canBeAsked_23 (by decide) ?_
          exact ee_zret rfl dW_canBeAsked_24
    · refine ee_iconst (v := (0 : Int32)) dW_canBeAsked_10 (by decide) ?_
      exact ee_zret rfl dW_canBeAsked_11
def fW_at (l0 : Nat) (l1 : Int32) (l2 : Int32) (l3 : Int32) (w : PW) : PX := (p_getI w l0 0 10).bind fun v1 => if ¬ v1 = 0 then ((p_obj w l0 0).bind fun _ => p_call (fW_canBeAsked l0 l1 l2 l3 w) <| p_kI fun v22 w22 => if ¬ v22 = 0 then (if ¬ l1 = (11 : Int32) then ((p_getR w22 l0 0 6).bind fun v55 => (p_obj w22 v55 7).bind fun _ => p_call (fSettings_valueOf v55 l1 l2 l3 w22) <| p_kI fun v61 w61 => some (.inl (some (.int v61)), w61)) else ((p_getR w22 l0 0 7).bind fun v45 => (p_getI w22 v45 1 3).bind fun v48 => some (.inl (some (.int v48)), w22))) else (p_throw "java/lang/IndexOutOfBoundsException" w22)) else (p_throw "java/lang/IllegalStateException" w)
set_option maxRecDepth 20000 in
set_option maxHeartbeats 2000000 in
theorem t_fW_at {Γ : PG} : ∀ (l0 : Nat) (l1 : Int32) (l2 : Int32) (l3 : Int32) (w : PW), EE Γ MW_at 0 (lv_args 0 [.ref l0, .int l1, .int l2, .int l3]) [] w (fW_at l0 l1 l2 l3 w) := by
  intro l0 l1 l2 l3 w
  unfold fW_at
  show EE Γ MW_at 0 [(0, .ref l0), (1, .int l1), (2, .int l2), (3, .int l3)] [] w _
  refine ee_aload_n 0 dW_at_0 rfl ?_
  refine ee_getI dW_at_1 lfW_75 (fun v1 _ => ?_)
  refine ee_if_ne (tgt := 18) dW_at_4 (by decide) (fun h4 => ?_) (fun h4 => ?_)
  · refine ee_aload_n 0 dW_at_18 rfl ?_
    refine ee_iload_n 1 dW_at_19 rfl ?_
    refine ee_iload_n 2 dW_at_20 rfl ?_
    refine ee_iload_n 3 dW_at_21 rfl ?_
    refine ee_bind (fun _ ho22 => ?_)
    refine ee_callV (as := [.int l1, .int l2, .int l3]) (st := []) dW_at_22 (t_fW_canBeAsked l0 l1 l2 l3 w) my_fW_canBeAsked.1 (Nat.le_of_ble_eq_true rfl) my_fW_canBeAsked.2 rfl cf_0.1 rfl (p_obj_eq.mp ho22) gw_1121 gw_1123 gw_7 ⟨Nat.le_of_ble_eq_true rfl, Nat.le_of_ble_eq_true rfl⟩ (Nat.le_of_ble_eq_true rfl) (fun rv22 w22 _ => ?_)
    refine ee_kI (fun v22 => ?_)
    refine ee_if_ne (tgt := 38) dW_at_25 (by decide) (fun h25 => ?_) (fun h25 => ?_)
    · refine ee_iload_n 1 dW_at_38 rfl ?_
      refine ee_bipush (v := (11 : Int32)) dW_at_39 (by decide) ?_
      refine ee_icmp_ne (tgt := 54) dW_at_41 (by decide) (fun h41 => ?_) (fun h41 => ?_)
      · refine ee_aload_n 0 dW_at_54 rfl ?_
        refine ee_getR dW_at_55 lfW_45 (fun v55 _ => ?_)
        refine ee_iload_n 1 dW_at_58 rfl ?_
        refine ee_iload_n 2 dW_at_59 rfl ?_
        refine ee_iload_n 3 dW_at_60 rfl ?_
        refine ee_bind (fun _ ho61 => ?_)
        refine ee_callV (as := [.int l1, .int l2, .int l3]) (st := []) dW_at_61 (t_fSettings_valueOf v55 l1 l2 l3 w22) my_fSettings_valueOf.1 (Nat.le_of_ble_eq_true rfl) my_fSettings_valueOf.2 rfl cf_7.1 rfl (p_obj_eq.mp ho61) gw_868 gw_417 gw_418 ⟨Nat.le_of_ble_eq_true rfl, Nat.le_of_ble_eq_true rfl⟩ (Nat.le_of_ble_eq_true rfl) (fun rv61 w61 _ => ?_)
        refine ee_kI (fun v61 => ?_)
        exact ee_iret rfl dW_at_64
      · refine ee_aload_n 0 dW_at_44 rfl ?_
        refine ee_getR dW_at_45 lfW_53 (fun v45 _ => ?_)
        refine ee_getI dW_at_48 lfW_268 (fun v48 _ => ?_)
        refine ee_goto (tgt := 64) dW_at_51 (by decide) ?_
        exact ee_iret rfl dW_at_64
    · exact ee_throw (text := "no such setting there") (names := ["java/lang/RuntimeException", "java/lang/Exception"]) (L4 := 6) (Or.inl rfl) dW_at_28 dW_at_31 (fun _ _ _ _ _ _ _ _ _ _ _ _ _ _ _ _ hx hb ho hz k => va_ldcS hx hb ho hz dW_at_32 k) dW_at_34 dW_at_37 (by decide) (by decide) gw_755 gw_69 oa_95 rfl (by decide +kernel) ⟨Nat.le_of_ble_eq_true rfl, Nat.le_of_ble_eq_true rfl⟩
  · exact ee_throw (text := "nothing was read") (names := ["java/lang/RuntimeException", "java/lang/Exception"]) (L4 := 7) (Or.inr rfl) dW_at_7 dW_at_10 (fun _ _ _ _ _ _ _ _ _ _ _ _ _ _ _ _ hx hb ho hz k => va_ldcSW hx hb ho hz dW_at_11 k) dW_at_14 dW_at_17 (by decide) (by decide) gw_831 gw_70 oa_109 rfl (by decide +kernel) ⟨Nat.le_of_ble_eq_true rfl, Nat.le_of_ble_eq_true rfl⟩
def fW_part_33 (w : PW) : PX := p_throw "java/lang/IndexOutOfBoundsException" w
set_option maxRecDepth 20000 in
set_option maxHeartbeats 2000000 in
theorem t_fW_part_33 {Γ : PG} : ∀ (w : PW), EE Γ MW_part 33 [] [] w (fW_part_33 w) := by
  intro w
  unfold fW_part_33
  exact ee_throw (text := "no such part") (names := ["java/lang/RuntimeException", "java/lang/Exception"]) (L4 := 6) (Or.inl rfl) dW_part_33 dW_part_36 (fun _ _ _ _ _ _ _ _ _ _ _ _ _ _ _ _ hx hb ho hz k => va_ldcS hx hb ho hz dW_part_37 k) dW_part_39 dW_part_42 (by decide) (by decide) gw_755 gw_69 oa_95 rfl (by decide +kernel) ⟨Nat.le_of_ble_eq_true rfl, Nat.le_of_ble_eq_true rfl⟩
def fW_part (l0 : Nat) (l1 : Int32) (l2 : Int32) (w : PW) : PX := (p_getI w l0 0 10).bind fun v1 => if ¬ v1 = 0 then (if l1 < 0 then (fW_part_33 w) else ((p_getR w l0 0 9).bind fun v24 => (p_getI w v24 6 12).bind fun v27 => if l1 < v27 then ((p_getR w l0 0 9).bind fun v44 => (p_obj w v44 6).bind fun _ => p_call (fPartReader_numberOf v44 l1 l2 w) <| p_kI fun v49 w49 => some (.inl (some (.int v49)), w49)) else (fW_part_33 w))) else (p_throw "java/lang/IllegalStateException" w)
set_option maxRecDepth 20000 in
set_option maxHeartbeats 2000000 in
theorem t_fW_part {Γ : PG} : ∀ (l0 : Nat) (l1 : Int32) (l2 : Int32) (w : PW), EE Γ MW_part 0 (lv_args 0 [.ref l0, .int l1, .int l2]) [] w (fW_part l0 l1 l2 w) := by
  intro l0 l1 l2 w
  unfold fW_part
  show EE Γ MW_part 0 [(0, .ref l0), (1, .int l1), (2, .int l2)] [] w _
  refine ee_aload_n 0 dW_part_0 rfl ?_
  refine ee_getI dW_part_1 lfW_75 (fun v1 _ => ?_)
  refine ee_if_ne (tgt := 18) dW_part_4 (by decide) (fun h4 => ?_) (fun h4 => ?_)
  · refine ee_iload_n 1 dW_part_18 rfl ?_
    refine ee_if_lt (tgt := 33) dW_part_19 (by decide) (fun h19 => ?_) (fun h19 => ?_)
    · refine ee_pick [] rfl ?_
      exact t_fW_part_33 w
    · refine ee_iload_n 1 dW_part_22 rfl ?_
      refine ee_aload_n 0 dW_part_23 rfl ?_
      refine ee_getR dW_part_24 lfW_71 (fun v24 _ => ?_)
      refine ee_getI dW_part_27 lfW_262 (fun v27 _ => ?_)
      refine ee_icmp_lt (tgt := 43) dW_part_30 (by decide) (fun h30 => ?_) (fun h30 => ?_)
      · refine ee_aload_n 0 dW_part_43 rfl ?_
        refine ee_getR dW_part_44 lfW_71 (fun v44 _ => ?_)
        refine ee_iload_n 1 dW_part_47 rfl ?_
        refine ee_iload_n 2 dW_part_48 rfl ?_
        refine ee_bind (fun _ ho49 => ?_)
        refine ee_callV (as := [.int l1, .int l2]) (st := []) dW_part_49 (t_fPartReader_numberOf v44 l1 l2 w) my_fPartReader_numberOf.1 (Nat.le_of_ble_eq_true rfl) my_fPartReader_numberOf.2 rfl cf_6.1 rfl (p_obj_eq.mp ho49) gw_1132 gw_721 gw_722 ⟨Nat.le_of_ble_eq_true rfl, Nat.le_of_ble_eq_true rfl⟩ (Nat.le_of_ble_eq_true rfl) (fun rv49 w49 _ => ?_)
        refine ee_kI (fun v49 => ?_)
        exact ee_iret rfl dW_part_52
      · refine ee_pick [] rfl ?_
        exact t_fW_part_33 w
  · exact ee_throw (text := "nothing was read") (names := ["java/lang/RuntimeException", "java/lang/Exception"]) (L4 := 7) (Or.inr rfl) dW_part_7 dW_part_10 (fun _ _ _ _ _ _ _ _ _ _ _ _ _ _ _ _ hx hb ho hz k => va_ldcSW hx hb ho hz dW_part_11 k) dW_part_14 dW_part_17 (by decide) (by decide) gw_831 gw_70 oa_109 rfl (by decide +kernel) ⟨Nat.le_of_ble_eq_true rfl, Nat.le_of_ble_eq_true rfl⟩
def fW_partByte_33 (w : PW) : PX := p_throw "java/lang/IndexOutOfBoundsException" w
set_option maxRecDepth 20000 in
set_option maxHeartbeats 2000000 in
theorem t_fW_partByte_33 {Γ : PG} : ∀ (w : PW), EE Γ MW_partByte 33 [] [] w (fW_partByte_33 w) := by
  intro w
  unfold fW_partByte_33
  exact ee_throw (text := "no such part") (names := ["java/lang/RuntimeException", "java/lang/Exception"]) (L4 := 6) (Or.inl rfl) dW_partByte_33 dW_partByte_36 (fun _ _ _ _ _ _ _ _ _ _ _ _ _ _ _ _ hx hb ho hz k => va_ldcS hx hb ho hz dW_partByte_37 k) dW_partByte_39 dW_partByte_42 (by decide) (by decide) gw_755 gw_69 oa_95 rfl (by decide +kernel) ⟨Nat.le_of_ble_eq_true rfl, Nat.le_of_ble_eq_true rfl⟩
def fW_partByte_60 (w : PW) : PX := p_throw "java/lang/IndexOutOfBoundsException" w
set_option maxRecDepth 20000 in
set_option maxHeartbeats 2000000 in
theorem t_fW_partByte_60 {Γ : PG} : ∀ (w : PW), EE Γ MW_partByte 60 [] [] w (fW_partByte_60 w) := by
  intro w
  unfold fW_partByte_60
  exact ee_throw (text := "no such byte") (names := ["java/lang/RuntimeException", "java/lang/Exception"]) (L4 := 6) (Or.inl rfl) dW_partByte_60 dW_partByte_63 (fun _ _ _ _ _ _ _ _ _ _ _ _ _ _ _ _ hx hb ho hz k => va_ldcS hx hb ho hz dW_partByte_64 k) dW_partByte_66 dW_partByte_69 (by decide) (by decide) gw_755 gw_69 oa_95 rfl (by decide +kernel) ⟨Nat.le_of_ble_eq_true rfl, Nat.le_of_ble_eq_true rfl⟩
def fW_partByte (l0 : Nat) (l1 : Int32) (l2 : Int32) (w : PW) : PX := (p_getI w l0 0 10).bind fun v1 => if ¬ v1 = 0 then (if l1 < 0 then (fW_partByte_33 w) else ((p_getR w l0 0 9).bind fun v24 => (p_getI w v24 6 12).bind fun v27 => if l1 < v27 then (if l2 < 0 then (fW_partByte_60 w) else ((p_getR w l0 0 9).bind fun v49 => (p_getR w v49 6 6).bind fun v52 => (p_ald w v52 0 l1).bind fun v56 => if l2 < v56 then ((p_getR w l0 0 5).bind fun v71 => (p_getR w l0 0 9).bind fun v75 => (p_getR w v75 6 5).bind fun v78 => (p_ald w v78 0 l1).bind fun v82 => (p_obj w v71 2).bind fun _ => p_call (fBytes_get v71 (v82 + l2) w) <| p_kI fun v85 w85 => some (.inl (some (.int v85)), w85)) else (fW_partByte_60 w))) else (fW_partByte_33 w))) else (p_throw "java/lang/IllegalStateException" w)
set_option maxRecDepth 20000 in
set_option maxHeartbeats 2000000 in
theorem t_fW_partByte {Γ : PG} : ∀ (l0 : Nat) (l1 : Int32) (l2 : Int32) (w : PW), EE Γ MW_partByte 0 (lv_args 0 [.ref l0, .int l1, .int l2]) [] w (fW_partByte l0 l1 l2 w) := by
  intro l0 l1 l2 w
  unfold fW_partByte
  show EE Γ MW_partByte 0 [(0, .ref l0), (1, .int l1), (2, .int l2)] [] w _
  refine ee_aload_n 0 dW_partByte_0 rfl ?_
  refine ee_getI dW_partByte_1 lfW_75 (fun v1 _ => ?_)
  refine ee_if_ne (tgt := 18) dW_partByte_4 (by decide) (fun h4 => ?_) (fun h4 => ?_)
  · refine ee_iload_n 1 dW_partByte_18 rfl ?_
    refine ee_if_lt (tgt := 33) dW_partByte_19 (by decide) (fun h19 => ?_) (fun h19 => ?_)
    · refine ee_pick [] rfl ?_
      exact t_fW_partByte_33 w
    · refine ee_iload_n 1 dW_partByte_22 rfl ?_
      refine ee_aload_n 0 dW_partByte_23 rfl ?_
      refine ee_getR dW_partByte_24 lfW_71 (fun v24 _ => ?_)
      refine ee_getI dW_partByte_27 lfW_262 (fun v27 _ => ?_)
      refine ee_icmp_lt (tgt := 43) dW_partByte_30 (by decide) (fun h30 => ?_) (fun h30 => ?_)
      · refine ee_iload_n 2 dW_partByte_43 rfl ?_
        refine ee_if_lt (tgt := 60) dW_partByte_44 (by decide) (fun h44 => ?_) (fun h44 => ?_)
        · refine ee_pick [] rfl ?_
          exact t_fW_partByte_60 w
        · refine ee_iload_n 2 dW_partByte_47 rfl ?_
          refine ee_aload_n 0 dW_partByte_48 rfl ?_
          refine ee_getR dW_partByte_49 lfW_71 (fun v49 _ => ?_)
          refine ee_getR dW_partByte_52 lfW_274 (fun v52 _ => ?_)
          refine ee_iload_n 1 dW_partByte_55 rfl ?_
          refine ee_iald (t := 0) dW_partByte_56 rfl (fun v56 _ => ?_)
          refine ee_icmp_lt (tgt := 70) dW_partByte_57 (by decide) (fun h57 => ?_) (fun h57 => ?_)
          · refine ee_aload_n 0 dW_partByte_70 rfl ?_
            refine ee_getR dW_partByte_71 lfW_42 (fun v71 _ => ?_)
            refine ee_aload_n 0 dW_partByte_74 rfl ?_
            refine ee_getR dW_partByte_75 lfW_71 (fun v75 _ => ?_)
            refine ee_getR dW_partByte_78 lfW_278 (fun v78 _ => ?_)
            refine ee_iload_n 1 dW_partByte_81 rfl ?_
            refine ee_iald (t := 0) dW_partByte_82 rfl (fun v82 _ => ?_)
            refine ee_iload_n 2 dW_partByte_83 rfl ?_
            refine ee_iadd dW_partByte_84 ?_
            refine ee_bind (fun _ ho85 => ?_)
            refine ee_callV (as := [.int (v82 + l2)]) (st := []) dW_partByte_85 (t_fBytes_get v71 (v82 + l2) w) my_fBytes_get.1 (Nat.le_of_ble_eq_true rfl) my_fBytes_get.2 rfl cf_2.1 rfl (p_obj_eq.mp ho85) gw_1081 gw_459 gw_460 ⟨Nat.le_of_ble_eq_true rfl, Nat.le_of_ble_eq_true rfl⟩ (Nat.le_of_ble_eq_true rfl) (fun rv85 w85 _ => ?_)
            refine ee_kI (fun v85 => ?_)
            exact ee_iret rfl dW_partByte_88
          · refine ee_pick [] rfl ?_
            exact t_fW_partByte_60 w
      · refine ee_pick [] rfl ?_
        exact t_fW_partByte_33 w
  · exact ee_throw (text := "nothing was read") (names := ["java/lang/RuntimeException", "java/lang/Exception"]) (L4 := 7) (Or.inr rfl) dW_partByte_7 dW_partByte_10 (fun _ _ _ _ _ _ _ _ _ _ _ _ _ _ _ _ hx hb ho hz k => va_ldcSW hx hb ho hz dW_partByte_11 k) dW_partByte_14 dW_partByte_17 (by decide) (by decide) gw_831 gw_70 oa_109 rfl (by decide +kernel) ⟨Nat.le_of_ble_eq_true rfl, Nat.le_of_ble_eq_true rfl⟩
def fW_unknown_18 (w : PW) : PX := p_throw "java/lang/IndexOutOfBoundsException" w
set_option maxRecDepth 20000 in
set_option maxHeartbeats 2000000 in
theorem t_fW_unknown_18 {Γ : PG} : ∀ (w : PW), EE Γ MW_unknown 18 [] [] w (fW_unknown_18 w) := by
  intro w
  unfold fW_unknown_18
  exact ee_throw (text := "no such box") (names := ["java/lang/RuntimeException", "java/lang/Exception"]) (L4 := 6) (Or.inl rfl) dW_unknown_18 dW_unknown_21 (fun _ _ _ _ _ _ _ _ _ _ _ _ _ _ _ _ hx hb ho hz k => va_ldcS hx hb ho hz dW_unknown_22 k) dW_unknown_24 dW_unknown_27 (by decide) (by decide) gw_755 gw_69 oa_95 rfl (by decide +kernel) ⟨Nat.le_of_ble_eq_true rfl, Nat.le_of_ble_eq_true rfl⟩
def fW_unknown_70 (w : PW) : PX := p_throw "java/lang/IndexOutOfBoundsException" w
set_option maxRecDepth 20000 in
set_option maxHeartbeats 2000000 in
theorem t_fW_unknown_70 {Γ : PG} : ∀ (w : PW), EE Γ MW_unknown 70 [] [] w (fW_unknown_70 w) := by
  intro w
  unfold fW_unknown_70
  exact ee_throw (text := "no such byte") (names := ["java/lang/RuntimeException", "java/lang/Exception"]) (L4 := 6) (Or.inl rfl) dW_unknown_70 dW_unknown_73 (fun _ _ _ _ _ _ _ _ _ _ _ _ _ _ _ _ hx hb ho hz k => va_ldcS hx hb ho hz dW_unknown_74 k) dW_unknown_76 dW_unknown_79 (by decide) (by decide) gw_755 gw_69 oa_95 rfl (by decide +kernel) ⟨Nat.le_of_ble_eq_true rfl, Nat.le_of_ble_eq_true rfl⟩
def fW_unknown (l0 : Nat) (l1 : Int32) (l2 : Int32) (w : PW) : PX := if l1 < 0 then (fW_unknown_18 w) else ((p_getR w l0 0 7).bind fun v6 => (p_getR w v6 1 1).bind fun v9 => (p_getI w v9 5 1).bind fun v12 => if l1 < v12 then ((p_getR w l0 0 7).bind fun v29 => (p_getR w v29 1 1).bind fun v32 => (p_obj w v32 5).bind fun _ => p_call (fNumbers_get v32 l1 w) <| p_kI fun v36 w36 => (p_getR w36 l0 0 7).bind fun v41 => (p_getR w36 v41 1 2).bind fun v44 => (p_obj w36 v44 5).bind fun _ => p_call (fNumbers_get v44 l1 w36) <| p_kI fun v48 w48 => p_let (((v48 - v36) - (8 : Int32))) fun (l4_56 : Int32) => if l2 < (-2 : Int32) then (fW_unknown_70 w48) else (if l2 < l4_56 then (if ¬ l2 = (-1 : Int32) then (if ¬ l2 = (-2 : Int32) then ((p_getR w48 l0 0 5).bind fun v106 => (p_obj w48 v106 2).bind fun _ => p_call (fBytes_get v106 ((v36 + (8 : Int32)) + l2) w48) <| p_kI fun v115 w115 => some (.inl (some (.int v115)), w115)) else (some (.inl (some (.int l4_56)), w48))) else ((p_getR w48 l0 0 7).bind fun v86 => (p_obj w48 v86 1).bind fun _ => p_call (fBoxReader_kindAt v86 v36 w48) <| p_kI fun v90 w90 => some (.inl (some (.int v90)), w90))) else (fW_unknown_70 w48))) else (fW_unknown_18 w))
set_option maxRecDepth 20000 in
set_option maxHeartbeats 2000000 in
theorem t_fW_unknown {Γ : PG} : ∀ (l0 : Nat) (l1 : Int32) (l2 : Int32) (w : PW), EE Γ MW_unknown 0 (lv_args 0 [.ref l0, .int l1, .int l2]) [] w (fW_unknown l0 l1 l2 w) := by
  intro l0 l1 l2 w
  unfold fW_unknown
  show EE Γ MW_unknown 0 [(0, .ref l0), (1, .int l1), (2, .int l2)] [] w _
  refine ee_iload_n 1 dW_unknown_0 rfl ?_
  refine ee_if_lt (tgt := 18) dW_unknown_1 (by decide) (fun h1 => ?_) (fun h1 => ?_)
  · refine ee_pick [] rfl ?_
    exact t_fW_unknown_18 w
  · refine ee_iload_n 1 dW_unknown_4 rfl ?_
    refine ee_aload_n 0 dW_unknown_5 rfl ?_
    refine ee_getR dW_unknown_6 lfW_53 (fun v6 _ => ?_)
    refine ee_getR dW_unknown_9 lfW_281 (fun v9 _ => ?_)
    refine ee_getI dW_unknown_12 lfW_285 (fun v12 _ => ?_)
    refine ee_icmp_lt (tgt := 28) dW_unknown_15 (by decide) (fun h15 => ?_) (fun h15 => ?_)
    · refine ee_aload_n 0 dW_unknown_28 rfl ?_
      refine ee_getR dW_unknown_29 lfW_53 (fun v29 _ => ?_)
      refine ee_getR dW_unknown_32 lfW_281 (fun v32 _ => ?_)
      refine ee_iload_n 1 dW_unknown_35 rfl ?_
      refine ee_bind (fun _ ho36 => ?_)
      refine ee_callV (as := [.int l1]) (st := []) dW_unknown_36 (t_fNumbers_get v32 l1 w) my_fNumbers_get.1 (Nat.le_of_ble_eq_true rfl) my_fNumbers_get.2 rfl cf_5.1 rfl (p_obj_eq.mp ho36) gw_1147 gw_1148 gw_1149 ⟨Nat.le_of_ble_eq_true rfl, Nat.le_of_ble_eq_true rfl⟩ (Nat.le_of_ble_eq_true rfl) (fun rv36 w36 _ => ?_)
      refine ee_kI (fun v36 => ?_)
      refine ee_istore_n (lv2 := [(3, .int v36), (0, .ref l0), (1, .int l1), (2, .int l2)]) dW_unknown_39 (Nat.le_of_ble_eq_true rfl) rfl ?_
      refine ee_aload_n 1 dW_unknown_40 rfl ?_
      refine ee_getR dW_unknown_41 lfW_53 (fun v41 _ => ?_)
      refine ee_getR dW_unknown_44 lfW_289 (fun v44 _ => ?_)
      refine ee_iload_n 2 dW_unknown_47 rfl ?_
      refine ee_bind (fun _ ho48 => ?_)
      refine ee_callV (as := [.int l1]) (st := []) dW_unknown_48 (t_fNumbers_get v44 l1 w36) my_fNumbers_get.1 (Nat.le_of_ble_eq_true rfl) my_fNumbers_get.2 rfl cf_5.1 rfl (p_obj_eq.mp ho48) gw_1147 gw_1148 gw_1149 ⟨Nat.le_of_ble_eq_true rfl, Nat.le_of_ble_eq_true rfl⟩ (Nat.le_of_ble_eq_true rfl) (fun rv48 w48 _ => ?_)
      refine ee_kI (fun v48 => ?_)
      refine ee_iload_n 0 dW_unknown_51 rfl ?_
      refine ee_isub dW_unknown_52 ?_
      refine ee_bipush (v := (8 : Int32)) dW_unknown_53 (by decide) ?_
      refine ee_isub dW_unknown_55 ?_
      refine ee_letI (fun l4_56 _ => ?_)
      refine ee_istore (lv2 := [(4, .int l4_56), (3, .int v36), (0, .ref l0), (1, .int l1), (2, .int l2)]) dW_unknown_56 (Nat.le_of_ble_eq_true rfl) rfl ?_
      refine ee_iload_n 4 dW_unknown_58 rfl ?_
      refine ee_bipush (v := (-2 : Int32)) dW_unknown_59 (by decide) ?_
      refine ee_icmp_lt (tgt := 70) dW_unknown_61 (by decide) (fun h61 => ?_) (fun h61 => ?_)
      · refine ee_pick [] rfl ?_
        exact t_fW_unknown_70 w48
      · refine ee_iload_n 4 dW_unknown_64 rfl ?_
        refine ee_iload 0 dW_unknown_65 rfl ?_
        refine ee_icmp_lt (tgt := 80) dW_unknown_67 (by decide) (fun h67 => ?_) (fun h67 => ?_)
        · refine ee_iload_n 4 dW_unknown_80 rfl ?_
          refine ee_iconst (v := (-1 : Int32)) dW_unknown_81 (by decide) ?_
          refine ee_icmp_ne (tgt := 94) dW_unknown_82 (by decide) (fun h82 => ?_) (fun h82 => ?_)
          · refine ee_iload_n 4 dW_unknown_94 rfl ?_
            refine ee_bipush (v := (-2 : Int32)) dW_unknown_95 (by decide) ?_
            refine ee_icmp_ne (tgt := 105) dW_unknown_97 (by decide) (fun h97 => ?_) (fun h97 => ?_)
            · refine ee_aload_n 2 dW_unknown_105 rfl ?_
              refine ee_getR dW_unknown_106 lfW_42 (fun v106 _ => ?_)
              refine ee_iload_n 1 dW_unknown_109 rfl ?_
              refine ee_bipush (v := (8 : Int32)) dW_unknown_110 (by decide) ?_
              refine ee_iadd dW_unknown_112 ?_
              refine ee_iload_n 4 dW_unknown_113 rfl ?_
              refine ee_iadd dW_unknown_114 ?_
              refine ee_bind (fun _ ho115 => ?_)
              refine ee_callV (as := [.int ((v36 + (8 : Int32)) + l2)]) (st := []) dW_unknown_115 (t_fBytes_get v106 ((v36 + (8 : Int32)) + l2) w48) my_fBytes_get.1 (Nat.le_of_ble_eq_true rfl) my_fBytes_get.2 rfl cf_2.1 rfl (p_obj_eq.mp ho115) gw_1081 gw_459 gw_460 ⟨Nat.le_of_ble_eq_true rfl, Nat.le_of_ble_eq_true rfl⟩ (Nat.le_of_ble_eq_true rfl) (fun rv115 w115 _ => ?_)
              refine ee_kI (fun v115 => ?_)
              exact ee_iret rfl dW_unknown_118
            · refine ee_iload 0 dW_unknown_100 rfl ?_
              refine ee_goto (tgt := 118) dW_unknown_102 (by decide) ?_
              exact ee_iret rfl dW_unknown_118
          · refine ee_aload_n 2 dW_unknown_85 rfl ?_
            refine ee_getR dW_unknown_86 lfW_53 (fun v86 _ => ?_)
            refine ee_iload_n 1 dW_unknown_89 rfl ?_
            refine ee_bind (fun _ ho90 => ?_)
            refine ee_callV (as := [.int v36]) (st := []) dW_unknown_90 (t_fBoxReader_kindAt v86 v36 w48) my_fBoxReader_kindAt.1 (Nat.le_of_ble_eq_true rfl) my_fBoxReader_kindAt.2 rfl cf_1.1 rfl (p_obj_eq.mp ho90) gw_1151 gw_546 gw_547 ⟨Nat.le_of_ble_eq_true rfl, Nat.le_of_ble_eq_true rfl⟩ (Nat.le_of_ble_eq_true rfl) (fun rv90 w90 _ => ?_)
            refine ee_kI (fun v90 => ?_)
            exact ee_iret rfl dW_unknown_93
        · refine ee_pick [] rfl ?_
          exact t_fW_unknown_70 w48
    · refine ee_pick [] rfl ?_
      exact t_fW_unknown_18 w
def fW_told (l0 : Nat) (l1 : Int32) (w : PW) : PX := if l1 = (0 : Int32) then ((p_getR w l0 0 0).bind fun v53 => (p_obj w v53 7).bind fun _ => p_call (fSettings_tiles v53 w) <| p_kI fun v56 w56 => some (.inl (some (.int v56)), w56)) else if l1 = (1 : Int32) then ((p_getR w l0 0 1).bind fun v61 => (p_obj w v61 11).bind fun _ => p_call (fAL_size v61 w) <| p_kI fun v64 w64 => some (.inl (some (.int v64)), w64)) else if l1 = (2 : Int32) then ((p_getR w l0 0 2).bind fun v69 => (p_obj w v69 11).bind fun _ => p_call (fAL_size v69 w) <| p_kI fun v72 w72 => some (.inl (some (.int v72)), w72)) else if l1 = (3 : Int32) then ((p_getR w l0 0 3).bind fun v77 => (p_getR w v77 9 0).bind fun v80 => (p_getI w v80 2 2).bind fun v83 => some (.inl (some (.int v83)), w)) else if l1 = (4 : Int32) then ((p_getR w l0 0 4).bind fun v88 => (p_getI w v88 2 2).bind fun v91 => some (.inl (some (.int v91)), w)) else if l1 = (5 : Int32) then ((p_getR w l0 0 9).bind fun v96 => (p_getI w v96 6 12).bind fun v99 => some (.inl (some (.int v99)), w)) else if l1 = (6 : Int32) then ((p_getR w l0 0 7).bind fun v104 => (p_getR w v104 1 1).bind fun v107 => (p_getI w v107 5 1).bind fun v110 => some (.inl (some (.int v110)), w)) else if l1 = (7 : Int32) then ((p_getR w l0 0 9).bind fun v115 => (p_obj w v115 6).bind fun _ => p_call (fPartReader_spoiltOnes v115 w) <| p_kI fun v118 w118 => some (.inl (some (.int v118)), w118)) else if l1 = (8 : Int32) then ((p_getR w l0 0 9).bind fun v123 => (p_obj w v123 6).bind fun _ => p_call (fPartReader_wholePackets v123 w) <| p_kI fun v126 w126 => some (.inl (some (.int v126)), w126)) else (some (.inl (some (.int (-1 : Int32))), w))
set_option maxRecDepth 20000 in
set_option maxHeartbeats 2000000 in
theorem t_fW_told {Γ : PG} : ∀ (l0 : Nat) (l1 : Int32) (w : PW), EE Γ MW_told 0 (lv_args 0 [.ref l0, .int l1]) [] w (fW_told l0 l1 w) := by
  intro l0 l1 w
  unfold fW_told
  show EE Γ MW_told 0 [(0, .ref l0), (1, .int l1)] [] w _
  refine ee_iload_n 1 dW_told_0 rfl ?_
  refine ee_ite (fun h1_0 => ?_) (fun h1_0 => ?_)
  · refine ee_tabIn (tgt := 52) dW_told_1 (by rw [h1_0]; decide) (by rw [h1_0]; decide) (by rw [h1_0]; rfl) (by decide) ?_
    refine ee_aload_n 0 dW_told_52 rfl ?_
    refine ee_getR dW_told_53 lfW_10 (fun v53 _ => ?_)
    refine ee_bind (fun _ ho56 => ?_)
    refine ee_callV (as := []) (st := []) dW_told_56 (t_fSettings_tiles v53 w) my_fSettings_tiles.1 (Nat.le_of_ble_eq_true rfl) my_fSettings_tiles.2 rfl cf_7.1 rfl (p_obj_eq.mp ho56) gw_714 gw_619 gw_620 ⟨Nat.le_of_ble_eq_true rfl, Nat.le_of_ble_eq_true rfl⟩ (Nat.le_of_ble_eq_true rfl) (fun rv56 w56 _ => ?_)
    refine ee_kI (fun v56 => ?_)
    exact ee_iret rfl dW_told_59
  · skip
    refine ee_ite (fun h1_1 => ?_) (fun h1_1 => ?_)
    · refine ee_tabIn (tgt := 60) dW_told_1 (by rw [h1_1]; decide) (by rw [h1_1]; decide) (by rw [h1_1]; rfl) (by decide) ?_
      refine ee_aload_n 0 dW_told_60 rfl ?_
      refine ee_getR dW_told_61 lfW_19 (fun v61 _ => ?_)
      refine ee_bind (fun _ ho64 => ?_)
      refine ee_callV (as := []) (st := []) dW_told_64 (t_fAL_size v61 w) my_fAL_size.1 (Nat.le_of_ble_eq_true rfl) my_fAL_size.2 rfl cf_11.1 rfl (p_obj_eq.mp ho64) gw_715 gw_436 gw_437 ⟨Nat.le_of_ble_eq_true rfl, Nat.le_of_ble_eq_true rfl⟩ (Nat.le_of_ble_eq_true rfl) (fun rv64 w64 _ => ?_)
      refine ee_kI (fun v64 => ?_)
      exact ee_iret rfl dW_told_67
    · skip
      refine ee_ite (fun h1_2 => ?_) (fun h1_2 => ?_)
      · refine ee_tabIn (tgt := 68) dW_told_1 (by rw [h1_2]; decide) (by rw [h1_2]; decide) (by rw [h1_2]; rfl) (by decide) ?_
        refine ee_aload_n 0 dW_told_68 rfl ?_
        refine ee_getR dW_told_69 lfW_23 (fun v69 _ => ?_)
        refine ee_bind (fun _ ho72 => ?_)
        refine ee_callV (as := []) (st := []) dW_told_72 (t_fAL_size v69 w) my_fAL_size.1 (Nat.le_of_ble_eq_true rfl) my_fAL_size.2 rfl cf_11.1 rfl (p_obj_eq.mp ho72) gw_715 gw_436 gw_437 ⟨Nat.le_of_ble_eq_true rfl, Nat.le_of_ble_eq_true rfl⟩ (Nat.le_of_ble_eq_true rfl) (fun rv72 w72 _ => ?_)
        refine ee_kI (fun v72 => ?_)
        exact ee_iret rfl dW_told_75
      · skip
        refine ee_ite (fun h1_3 => ?_) (fun h1_3 => ?_)
        · refine ee_tabIn (tgt := 76) dW_told_1 (by rw [h1_3]; decide) (by rw [h1_3]; decide) (by rw [h1_3]; rfl) (by decide) ?_
          refine ee_aload_n 0 dW_told_76 rfl ?_
          refine ee_getR dW_told_77 lfW_29 (fun v77 _ => ?_)
          refine ee_getR dW_told_80 lfW_218 (fun v80 _ => ?_)
          refine ee_getI dW_told_83 lfW_180 (fun v83 _ => ?_)
          exact ee_iret rfl dW_told_86
        · skip
          refine ee_ite (fun h1_4 => ?_) (fun h1_4 => ?_)
          · refine ee_tabIn (tgt := 87) dW_told_1 (by rw [h1_4]; decide) (by rw [h1_4]; decide) (by rw [h1_4]; rfl) (by decide) ?_
            refine ee_aload_n 0 dW_told_87 rfl ?_
            refine ee_getR dW_told_88 lfW_38 (fun v88 _ => ?_)
            refine ee_getI dW_told_91 lfW_180 (fun v91 _ => ?_)
            exact ee_iret rfl dW_told_94
          · skip
            refine ee_ite (fun h1_5 => ?_) (fun h1_5 => ?_)
            · refine ee_tabIn (tgt := 95) dW_told_1 (by rw [h1_5]; decide) (by rw [h1_5]; decide) (by rw [h1_5]; rfl) (by decide) ?_
              refine ee_aload_n 0 dW_told_95 rfl ?_
              refine ee_getR dW_told_96 lfW_71 (fun v96 _ => ?_)
              refine ee_getI dW_told_99 lfW_262 (fun v99 _ => ?_)
              exact ee_iret rfl dW_told_102
            · skip
              refine ee_ite (fun h1_6 => ?_) (fun h1_6 => ?_)
              · refine ee_tabIn (tgt := 103) dW_told_1 (by rw [h1_6]; decide) (by rw [h1_6]; decide) (by rw [h1_6]; rfl) (by decide) ?_
                refine ee_aload_n 0 dW_told_103 rfl ?_
                refine ee_getR dW_told_104 lfW_53 (fun v104 _ => ?_)
                refine ee_getR dW_told_107 lfW_281 (fun v107 _ => ?_)
                refine ee_getI dW_told_110 lfW_285 (fun v110 _ => ?_)
                exact ee_iret rfl dW_told_113
              · skip
                refine ee_ite (fun h1_7 => ?_) (fun h1_7 => ?_)
                · refine ee_tabIn (tgt := 114) dW_told_1 (by rw [h1_7]; decide) (by rw [h1_7]; decide) (by rw [h1_7]; rfl) (by decide) ?_
                  refine ee_aload_n 0 dW_told_114 rfl ?_
                  refine ee_getR dW_told_115 lfW_71 (fun v115 _ => ?_)
                  refine ee_bind (fun _ ho118 => ?_)
                  refine ee_callV (as := []) (st := []) dW_told_118 (t_fPartReader_spoiltOnes v115 w) my_fPartReader_spoiltOnes.1 (Nat.le_of_ble_eq_true rfl) my_fPartReader_spoiltOnes.2 rfl cf_6.1 rfl (p_obj_eq.mp ho118) gw_716 gw_717 gw_718 ⟨Nat.le_of_ble_eq_true rfl, Nat.le_of_ble_eq_true rfl⟩ (Nat.le_of_ble_eq_true rfl) (fun rv118 w118 _ => ?_)
                  refine ee_kI (fun v118 => ?_)
                  exact ee_iret rfl dW_told_121
                · skip
                  refine ee_ite (fun h1_8 => ?_) (fun h1_8 => ?_)
                  · refine ee_tabIn (tgt := 122) dW_told_1 (by rw [h1_8]; decide) (by rw [h1_8]; decide) (by rw [h1_8]; rfl) (by decide) ?_
                    refine ee_aload_n 0 dW_told_122 rfl ?_
                    refine ee_getR dW_told_123 lfW_71 (fun v123 _ => ?_)
                    refine ee_bind (fun _ ho126 => ?_)
                    refine ee_callV (as := []) (st := []) dW_told_126 (t_fPartReader_wholePackets v123 w) my_fPartReader_wholePackets.1 (Nat.le_of_ble_eq_true rfl) my_fPartReader_wholePackets.2 rfl cf_6.1 rfl (p_obj_eq.mp ho126) gw_724 gw_725 gw_726 ⟨Nat.le_of_ble_eq_true rfl, Nat.le_of_ble_eq_true rfl⟩ (Nat.le_of_ble_eq_true rfl) (fun rv126 w126 _ => ?_)
                    refine ee_kI (fun v126 => ?_)
                    exact ee_iret rfl dW_told_129
                  · skip
                    refine ee_tabOut (tgt := 130) dW_told_1 (by have e0 : ¬ Int32.toInt l1 = (0 : Int) := fun h => h1_0 (Int32.toInt_inj.mp (h.trans (show (0 : Int) = (0 : Int32).toInt by decide))); have e1 : ¬ Int32.toInt l1 = (1 : Int) := fun h => h1_1 (Int32.toInt_inj.mp (h.trans (show (1 : Int) = (1 : Int32).toInt by decide))); have e2 : ¬ Int32.toInt l1 = (2 : Int) := fun h => h1_2 (Int32.toInt_inj.mp (h.trans (show (2 : Int) = (2 : Int32).toInt by decide))); have e3 : ¬ Int32.toInt l1 = (3 : Int) := fun h => h1_3 (Int32.toInt_inj.mp (h.trans (show (3 : Int) = (3 : Int32).toInt by decide))); have e4 : ¬ Int32.toInt l1 = (4 : Int) := fun h => h1_4 (Int32.toInt_inj.mp (h.trans (show (4 : Int) = (4 : Int32).toInt by decide))); have e5 : ¬ Int32.toInt l1 = (5 : Int) := fun h => h1_5 (Int32.toInt_inj.mp (h.trans (show (5 : Int) = (5 : Int32).toInt by decide))); have e6 : ¬ Int32.toInt l1 = (6 : Int) := fun h => h1_6 (Int32.toInt_inj.mp (h.trans (show (6 : Int) = (6 : Int32).toInt by decide))); have e7 : ¬ Int32.toInt l1 = (7 : Int) := fun h => h1_7 (Int32.toInt_inj.mp (h.trans (show (7 : Int) = (7 : Int32).toInt by decide))); have e8 : ¬ Int32.toInt l1 = (8 : Int) := fun h => h1_8 (Int32.toInt_inj.mp (h.trans (show (8 : Int) = (8 : Int32).toInt by decide))); omega) (by decide) ?_
                    refine ee_iconst (v := (-1 : Int32)) dW_told_130 (by decide) ?_
                    exact ee_iret rfl dW_told_131
