def fD_layLengths_85 (k_19 : Nat → Int32 → Int32 → Int32 → PW → PX) (k_46 : Nat → Int32 → Int32 → Int32 → Int32 → Int32 → PW → PX) (l0 : Nat) (l1 : Int32) (l2 : Int32) (l3 : Int32) (l4 : Int32) (l5 : Int32) (s0 : Int32) (s1 : Int32) (s2 : Nat) (w : PW) : PX := (p_obj w s2 10).bind fun _ => p_call (fD_lay s2 (s1 ||| s0) w) <| p_kV fun w86 => p_let (l5 + (-7 : Int32)) fun (l5_89 : Int32) => k_46 l0 l1 l2 l3 l4 l5_89 w86
set_option maxRecDepth 20000 in
set_option maxHeartbeats 2000000 in
theorem t_fD_layLengths_85 {Γ : PG} {k_19 : Nat → Int32 → Int32 → Int32 → PW → PX} {k_46 : Nat → Int32 → Int32 → Int32 → Int32 → Int32 → PW → PX} (hk_19 : ∀ (l0 : Nat) (l1 : Int32) (l2 : Int32) (l3 : Int32) (w : PW), EE Γ MD_layLengths 19 [(0, .ref l0), (1, .int l1), (2, .int l2), (3, .int l3)] [] w (k_19 l0 l1 l2 l3 w)) (hk_46 : ∀ (l0 : Nat) (l1 : Int32) (l2 : Int32) (l3 : Int32) (l4 : Int32) (l5 : Int32) (w : PW), EE Γ MD_layLengths 46 [(0, .ref l0), (1, .int l1), (2, .int l2), (3, .int l3), (4, .int l4), (5, .int l5)] [] w (k_46 l0 l1 l2 l3 l4 l5 w)) : ∀ (l0 : Nat) (l1 : Int32) (l2 : Int32) (l3 : Int32) (l4 : Int32) (l5 : Int32) (s0 : Int32) (s1 : Int32) (s2 : Nat) (w : PW), EE Γ MD_layLengths 85 [(0, .ref l0), (1, .int l1), (2, .int l2), (3, .int l3), (4, .int l4), (5, .int l5)] [.int s0, .int s1, .ref s2] w (fD_layLengths_85 k_19 k_46 l0 l1 l2 l3 l4 l5 s0 s1 s2 w) := by
  intro l0 l1 l2 l3 l4 l5 s0 s1 s2 w
  unfold fD_layLengths_85
  refine ee_ior dD_layLengths_85 ?_
  refine ee_bind (fun _ ho86 => ?_)
  refine ee_callV (as := [.int (s1 ||| s0)]) (st := []) dD_layLengths_86 (t_fD_lay s2 (s1 ||| s0) w) my_fD_lay.1 (Nat.le_of_ble_eq_true rfl) my_fD_lay.2 rfl cf_10.1 rfl (p_obj_eq.mp ho86) gw_1425 gw_1427 gw_22 ⟨Nat.le_of_ble_eq_true rfl, Nat.le_of_ble_eq_true rfl⟩ (Nat.le_of_ble_eq_true rfl) (fun rv86 w86 _ => ?_)
  refine ee_kV ?_
  refine ee_iinc 5 dD_layLengths_89 rfl (e := (-7 : Int32)) (by decide) (Nat.le_of_ble_eq_true rfl) (fun l5_89 _ => ?_)
  refine ee_lv (lv2 := [(5, .int l5_89), (0, .ref l0), (1, .int l1), (2, .int l2), (3, .int l3), (4, .int l4)]) rfl ?_
  refine ee_goto (tgt := 46) dD_layLengths_92 (by decide) ?_
  refine ee_pick [1, 2, 3, 4, 5, 0] rfl ?_
  exact hk_46 _ _ _ _ _ _ w86
def fD_layLengths_64 (k_19 : Nat → Int32 → Int32 → Int32 → PW → PX) (k_46 : Nat → Int32 → Int32 → Int32 → Int32 → Int32 → PW → PX) (l0 : Nat) (l1 : Int32) (l2 : Int32) (l3 : Int32) (l4 : Int32) (l5 : Int32) (w : PW) : PX := if l5 ≤ 0 then (fD_layLengths_85 k_19 k_46 l0 l1 l2 l3 l4 l5 (0 : Int32) ((p_ishr l4 l5) &&& (127 : Int32)) l0 w) else (fD_layLengths_85 k_19 k_46 l0 l1 l2 l3 l4 l5 (128 : Int32) ((p_ishr l4 l5) &&& (127 : Int32)) l0 w)
set_option maxRecDepth 20000 in
set_option maxHeartbeats 2000000 in
theorem t_fD_layLengths_64 {Γ : PG} {k_19 : Nat → Int32 → Int32 → Int32 → PW → PX} {k_46 : Nat → Int32 → Int32 → Int32 → Int32 → Int32 → PW → PX} (hk_19 : ∀ (l0 : Nat) (l1 : Int32) (l2 : Int32) (l3 : Int32) (w : PW), EE Γ MD_layLengths 19 [(0, .ref l0), (1, .int l1), (2, .int l2), (3, .int l3)] [] w (k_19 l0 l1 l2 l3 w)) (hk_46 : ∀ (l0 : Nat) (l1 : Int32) (l2 : Int32) (l3 : Int32) (l4 : Int32) (l5 : Int32) (w : PW), EE Γ MD_layLengths 46 [(0, .ref l0), (1, .int l1), (2, .int l2), (3, .int l3), (4, .int l4), (5, .int l5)] [] w (k_46 l0 l1 l2 l3 l4 l5 w)) : ∀ (l0 : Nat) (l1 : Int32) (l2 : Int32) (l3 : Int32) (l4 : Int32) (l5 : Int32) (w : PW), EE Γ MD_layLengths 64 [(0, .ref l0), (1, .int l1), (2, .int l2), (3, .int l3), (4, .int l4), (5, .int l5)] [] w (fD_layLengths_64 k_19 k_46 l0 l1 l2 l3 l4 l5 w) := by
  intro l0 l1 l2 l3 l4 l5 w
  unfold fD_layLengths_64
  refine ee_aload_n 0 dD_layLengths_64 rfl ?_
  refine ee_iload 4 dD_layLengths_65 rfl ?_
  refine ee_iload 5 dD_layLengths_67 rfl ?_
  refine ee_ishr dD_layLengths_69 ?_
  refine ee_bipush (v := (127 : Int32)) dD_layLengths_70 (by decide) ?_
  refine ee_iand dD_layLengths_72 ?_
  refine ee_iload 5 dD_layLengths_73 rfl ?_
  refine ee_if_le (tgt := 84) dD_layLengths_75 (by decide) (fun h75 => ?_) (fun h75 => ?_)
  · refine ee_iconst (v := (0 : Int32)) dD_layLengths_84 (by decide) ?_
    exact t_fD_layLengths_85 hk_19 hk_46 _ _ _ _ _ _ _ _ _ w
  · refine ee_sipush (v := (128 : Int32)) dD_layLengths_78 (by decide) ?_
    refine ee_goto (tgt := 85) dD_layLengths_81 (by decide) ?_
    exact t_fD_layLengths_85 hk_19 hk_46 _ _ _ _ _ _ _ _ _ w
def fD_layLengths_46 (k_19 : Nat → Int32 → Int32 → Int32 → PW → PX) : Nat → Nat → Int32 → Int32 → Int32 → Int32 → Int32 → PW → PX
  | 0, _, _, _, _, _, _, _ => none
  | n9 + 1, l0, l1, l2, l3, l4, l5, w => if l5 < 0 then (p_let (l3 + (1 : Int32)) fun (l3_95 : Int32) => k_19 l0 l1 l2 l3_95 w) else (if 0 < (p_ishr l4 l5) then (fD_layLengths_64 k_19 (fD_layLengths_46 k_19 n9) l0 l1 l2 l3 l4 l5 w) else (if ¬ l5 = 0 then (p_let (l5 + (-7 : Int32)) fun (l5_89 : Int32) => (fD_layLengths_46 k_19 n9) l0 l1 l2 l3 l4 l5_89 w) else (fD_layLengths_64 k_19 (fD_layLengths_46 k_19 n9) l0 l1 l2 l3 l4 l5 w)))
set_option maxRecDepth 20000 in
set_option maxHeartbeats 2000000 in
theorem t_fD_layLengths_46 {Γ : PG} {k_19 : Nat → Int32 → Int32 → Int32 → PW → PX} (hk_19 : ∀ (l0 : Nat) (l1 : Int32) (l2 : Int32) (l3 : Int32) (w : PW), EE Γ MD_layLengths 19 [(0, .ref l0), (1, .int l1), (2, .int l2), (3, .int l3)] [] w (k_19 l0 l1 l2 l3 w)) : ∀ (n9 : Nat) (l0 : Nat) (l1 : Int32) (l2 : Int32) (l3 : Int32) (l4 : Int32) (l5 : Int32) (w : PW), EE Γ MD_layLengths 46 [(0, .ref l0), (1, .int l1), (2, .int l2), (3, .int l3), (4, .int l4), (5, .int l5)] [] w (fD_layLengths_46 k_19 n9 l0 l1 l2 l3 l4 l5 w) := by
  intro n9
  induction n9 with
  | zero => intro l0 l1 l2 l3 l4 l5 w; exact ee_none
  | succ n9 ih =>
    intro l0 l1 l2 l3 l4 l5 w
    unfold fD_layLengths_46
    refine ee_iload 5 dD_layLengths_46 rfl ?_
    refine ee_if_lt (tgt := 95) dD_layLengths_48 (by decide) (fun h48 => ?_) (fun h48 => ?_)
    · refine ee_iinc 3 dD_layLengths_95 rfl (e := (1 : Int32)) (by decide) (Nat.le_of_ble_eq_true rfl) (fun l3_95 _ => ?_)
      refine ee_lv (lv2 := [(3, .int l3_95), (0, .ref l0), (1, .int l1), (2, .int l2), (4, .int l4), (5, .int l5)]) rfl ?_
      refine ee_goto (tgt := 19) dD_layLengths_98 (by decide) ?_
      refine ee_pick [1, 2, 3, 0] rfl ?_
      exact hk_19 _ _ _ _ w
    · refine ee_iload 4 dD_layLengths_51 rfl ?_
      refine ee_iload 5 dD_layLengths_53 rfl ?_
      refine ee_ishr dD_layLengths_55 ?_
      refine ee_if_gt (tgt := 64) dD_layLengths_56 (by decide) (fun h56 => ?_) (fun h56 => ?_)
      · exact t_fD_layLengths_64 hk_19 ih _ _ _ _ _ _ w
      · refine ee_iload 5 dD_layLengths_59 rfl ?_
        refine ee_if_ne (tgt := 89) dD_layLengths_61 (by decide) (fun h61 => ?_) (fun h61 => ?_)
        · refine ee_iinc 5 dD_layLengths_89 rfl (e := (-7 : Int32)) (by decide) (Nat.le_of_ble_eq_true rfl) (fun l5_89 _ => ?_)
          refine ee_lv (lv2 := [(5, .int l5_89), (0, .ref l0), (1, .int l1), (2, .int l2), (3, .int l3), (4, .int l4)]) rfl ?_
          refine ee_goto (tgt := 46) dD_layLengths_92 (by decide) ?_
          refine ee_pick [1, 2, 3, 4, 5, 0] rfl ?_
          exact ih _ _ _ _ _ _ w
        · exact t_fD_layLengths_64 hk_19 ih _ _ _ _ _ _ w
def fD_layLengths_19 : Nat → Nat → Int32 → Int32 → Int32 → PW → PX
  | 0, _, _, _, _, _ => none
  | n9 + 1, l0, l1, l2, l3, w => (p_getR w l0 10 10).bind fun v21 => (p_ald w v21 0 l1).bind fun v25 => if v25 ≤ l3 then ((p_getI w l0 10 20).bind fun v102 => p_let (((v102 - l2) - (2 : Int32))) fun (l3_109 : Int32) => (p_getR w l0 10 19).bind fun v111 => (p_ast w v111 0 (l2 + (2 : Int32)) (p_ishr l3_109 (8 : Int32))).bind fun w121 => (p_getR w121 l0 10 19).bind fun v123 => (p_ast w121 v123 0 (l2 + (3 : Int32)) (l3_109 &&& (255 : Int32))).bind fun w134 => some (.inl none, w134)) else ((p_getR w l0 10 11).bind fun v30 => (p_ald w v30 0 (((20 : Int32) * l1) + l3)).bind fun v39 => fD_layLengths_46 (fD_layLengths_19 n9) FUEL l0 l1 l2 l3 v39 (28 : Int32) w)
set_option maxRecDepth 20000 in
set_option maxHeartbeats 2000000 in
theorem t_fD_layLengths_19 {Γ : PG} : ∀ (n9 : Nat) (l0 : Nat) (l1 : Int32) (l2 : Int32) (l3 : Int32) (w : PW), EE Γ MD_layLengths 19 [(0, .ref l0), (1, .int l1), (2, .int l2), (3, .int l3)] [] w (fD_layLengths_19 n9 l0 l1 l2 l3 w) := by
  intro n9
  induction n9 with
  | zero => intro l0 l1 l2 l3 w; exact ee_none
  | succ n9 ih =>
    intro l0 l1 l2 l3 w
    unfold fD_layLengths_19
    refine ee_iload_n 3 dD_layLengths_19 rfl ?_
    refine ee_aload_n 0 dD_layLengths_20 rfl ?_
    refine ee_getR dD_layLengths_21 lfD_29 (fun v21 _ => ?_)
    refine ee_iload_n 1 dD_layLengths_24 rfl ?_
    refine ee_iald (t := 0) dD_layLengths_25 rfl (fun v25 _ => ?_)
    refine ee_icmp_ge (tgt := 101) dD_layLengths_26 (by decide) (fun h26 => ?_) (fun h26 => ?_)
    · refine ee_aload_n 0 dD_layLengths_101 rfl ?_
      refine ee_getI dD_layLengths_102 lfD_212 (fun v102 _ => ?_)
      refine ee_iload_n 2 dD_layLengths_105 rfl ?_
      refine ee_isub dD_layLengths_106 ?_
      refine ee_iconst (v := (2 : Int32)) dD_layLengths_107 (by decide) ?_
      refine ee_isub dD_layLengths_108 ?_
      refine ee_letI (fun l3_109 _ => ?_)
      refine ee_istore_n (lv2 := [(3, .int l3_109), (0, .ref l0), (1, .int l1), (2, .int l2)]) dD_layLengths_109 (Nat.le_of_ble_eq_true rfl) rfl ?_
      refine ee_aload_n 1 dD_layLengths_110 rfl ?_
      refine ee_getR dD_layLengths_111 lfD_54 (fun v111 _ => ?_)
      refine ee_iload_n 3 dD_layLengths_114 rfl ?_
      refine ee_iconst (v := (2 : Int32)) dD_layLengths_115 (by decide) ?_
      refine ee_iadd dD_layLengths_116 ?_
      refine ee_iload_n 0 dD_layLengths_117 rfl ?_
      refine ee_bipush (v := (8 : Int32)) dD_layLengths_118 (by decide) ?_
      refine ee_ishr dD_layLengths_120 ?_
      refine ee_iast (t := 0) dD_layLengths_121 rfl (fun w121 _ => ?_)
      refine ee_aload_n 1 dD_layLengths_122 rfl ?_
      refine ee_getR dD_layLengths_123 lfD_54 (fun v123 _ => ?_)
      refine ee_iload_n 3 dD_layLengths_126 rfl ?_
      refine ee_iconst (v := (3 : Int32)) dD_layLengths_127 (by decide) ?_
      refine ee_iadd dD_layLengths_128 ?_
      refine ee_iload_n 0 dD_layLengths_129 rfl ?_
      refine ee_sipush (v := (255 : Int32)) dD_layLengths_130 (by decide) ?_
      refine ee_iand dD_layLengths_133 ?_
      refine ee_iast (t := 0) dD_layLengths_134 rfl (fun w134 _ => ?_)
      exact ee_vret rfl dD_layLengths_135
    · refine ee_aload_n 0 dD_layLengths_29 rfl ?_
      refine ee_getR dD_layLengths_30 lfD_32 (fun v30 _ => ?_)
      refine ee_bipush (v := (20 : Int32)) dD_layLengths_33 (by decide) ?_
      refine ee_iload_n 1 dD_layLengths_35 rfl ?_
      refine ee_imul dD_layLengths_36 ?_
      refine ee_iload_n 3 dD_layLengths_37 rfl ?_
      refine ee_iadd dD_layLengths_38 ?_
      refine ee_iald (t := 0) dD_layLengths_39 rfl (fun v39 _ => ?_)
      refine ee_istore (lv2 := [(4, .int v39), (0, .ref l0), (1, .int l1), (2, .int l2), (3, .int l3)]) dD_layLengths_40 (Nat.le_of_ble_eq_true rfl) rfl ?_
      refine ee_bipush (v := (28 : Int32)) dD_layLengths_42 (by decide) ?_
      refine ee_istore (lv2 := [(5, .int (28 : Int32)), (4, .int v39), (0, .ref l0), (1, .int l1), (2, .int l2), (3, .int l3)]) dD_layLengths_44 (Nat.le_of_ble_eq_true rfl) rfl ?_
      refine ee_pick [2, 3, 4, 5, 1, 0] rfl ?_
      exact t_fD_layLengths_46 ih FUEL _ _ _ _ _ _ w
def fD_layLengths (l0 : Nat) (l1 : Int32) (w : PW) : PX := (p_getI w l0 10 20).bind fun v1 => (p_obj w l0 10).bind fun _ => p_call (fD_layMark l0 (88 : Int32) (0 : Int32) w) <| p_kV fun w9 => (p_obj w9 l0 10).bind fun _ => p_call (fD_lay l0 (0 : Int32) w9) <| p_kV fun w14 => fD_layLengths_19 FUEL l0 l1 v1 (0 : Int32) w14
set_option maxRecDepth 20000 in
set_option maxHeartbeats 2000000 in
theorem t_fD_layLengths {Γ : PG} : ∀ (l0 : Nat) (l1 : Int32) (w : PW), EE Γ MD_layLengths 0 (lv_args 0 [.ref l0, .int l1]) [] w (fD_layLengths l0 l1 w) := by
  intro l0 l1 w
  unfold fD_layLengths
  show EE Γ MD_layLengths 0 [(0, .ref l0), (1, .int l1)] [] w _
  refine ee_aload_n 0 dD_layLengths_0 rfl ?_
  refine ee_getI dD_layLengths_1 lfD_212 (fun v1 _ => ?_)
  refine ee_istore_n (lv2 := [(2, .int v1), (0, .ref l0), (1, .int l1)]) dD_layLengths_4 (Nat.le_of_ble_eq_true rfl) rfl ?_
  refine ee_aload_n 1 dD_layLengths_5 rfl ?_
  refine ee_bipush (v := (88 : Int32)) dD_layLengths_6 (by decide) ?_
  refine ee_iconst (v := (0 : Int32)) dD_layLengths_8 (by decide) ?_
  refine ee_bind (fun _ ho9 => ?_)
  refine ee_callV (as := [.int (88 : Int32), .int (0 : Int32)]) (st := []) dD_layLengths_9 (t_fD_layMark l0 (88 : Int32) (0 : Int32) w) my_fD_layMark.1 (Nat.le_of_ble_eq_true rfl) my_fD_layMark.2 rfl cf_10.1 rfl (p_obj_eq.mp ho9) gw_1439 gw_1441 gw_25 ⟨Nat.le_of_ble_eq_true rfl, Nat.le_of_ble_eq_true rfl⟩ (Nat.le_of_ble_eq_true rfl) (fun rv9 w9 _ => ?_)
  refine ee_kV ?_
  refine ee_aload_n 1 dD_layLengths_12 rfl ?_
  refine ee_iconst (v := (0 : Int32)) dD_layLengths_13 (by decide) ?_
  refine ee_bind (fun _ ho14 => ?_)
  refine ee_callV (as := [.int (0 : Int32)]) (st := []) dD_layLengths_14 (t_fD_lay l0 (0 : Int32) w9) my_fD_lay.1 (Nat.le_of_ble_eq_true rfl) my_fD_lay.2 rfl cf_10.1 rfl (p_obj_eq.mp ho14) gw_1425 gw_1427 gw_22 ⟨Nat.le_of_ble_eq_true rfl, Nat.le_of_ble_eq_true rfl⟩ (Nat.le_of_ble_eq_true rfl) (fun rv14 w14 _ => ?_)
  refine ee_kV ?_
  refine ee_iconst (v := (0 : Int32)) dD_layLengths_17 (by decide) ?_
  refine ee_istore_n (lv2 := [(3, .int (0 : Int32)), (2, .int v1), (0, .ref l0), (1, .int l1)]) dD_layLengths_18 (Nat.le_of_ble_eq_true rfl) rfl ?_
  refine ee_pick [2, 3, 1, 0] rfl ?_
  exact t_fD_layLengths_19 FUEL _ _ _ _ w14
def fD_layPart_129 : Nat → Nat → Int32 → Int32 → Int32 → PW → PX
  | 0, _, _, _, _, _ => none
  | n9 + 1, l0, l3, l4, l5, w => if (4 : Int32) ≤ l5 then (some (.inl none, w)) else ((p_getR w l0 10 19).bind fun v136 => (p_ast w v136 0 ((l3 + (6 : Int32)) + l5) ((p_ishr l4 ((24 : Int32) - ((8 : Int32) * l5))) &&& (255 : Int32))).bind fun w161 => p_let (l5 + (1 : Int32)) fun (l5_162 : Int32) => (fD_layPart_129 n9) l0 l3 l4 l5_162 w161)
set_option maxRecDepth 20000 in
set_option maxHeartbeats 2000000 in
theorem t_fD_layPart_129 {Γ : PG} : ∀ (n9 : Nat) (l0 : Nat) (l3 : Int32) (l4 : Int32) (l5 : Int32) (w : PW), EE Γ MD_layPart 129 [(0, .ref l0), (3, .int l3), (4, .int l4), (5, .int l5)] [] w (fD_layPart_129 n9 l0 l3 l4 l5 w) := by
  intro n9
  induction n9 with
  | zero => intro l0 l3 l4 l5 w; exact ee_none
  | succ n9 ih =>
    intro l0 l3 l4 l5 w
    unfold fD_layPart_129
    refine ee_iload 3 dD_layPart_129 rfl ?_
    refine ee_iconst (v := (4 : Int32)) dD_layPart_131 (by decide) ?_
    refine ee_icmp_ge (tgt := 168) dD_layPart_132 (by decide) (fun h132 => ?_) (fun h132 => ?_)
    · exact ee_vret rfl dD_layPart_168
    · refine ee_aload_n 0 dD_layPart_135 rfl ?_
      refine ee_getR dD_layPart_136 lfD_54 (fun v136 _ => ?_)
      refine ee_iload_n 1 dD_layPart_139 rfl ?_
      refine ee_bipush (v := (6 : Int32)) dD_layPart_140 (by decide) ?_
      refine ee_iadd dD_layPart_142 ?_
      refine ee_iload 3 dD_layPart_143 rfl ?_
      refine ee_iadd dD_layPart_145 ?_
      refine ee_iload 2 dD_layPart_146 rfl ?_
      refine ee_bipush (v := (24 : Int32)) dD_layPart_148 (by decide) ?_
      refine ee_bipush (v := (8 : Int32)) dD_layPart_150 (by decide) ?_
      refine ee_iload 3 dD_layPart_152 rfl ?_
      refine ee_imul dD_layPart_154 ?_
      refine ee_isub dD_layPart_155 ?_
      refine ee_ishr dD_layPart_156 ?_
      refine ee_sipush (v := (255 : Int32)) dD_layPart_157 (by decide) ?_
      refine ee_iand dD_layPart_160 ?_
      refine ee_iast (t := 0) dD_layPart_161 rfl (fun w161 _ => ?_)
      refine ee_iinc 3 dD_layPart_162 rfl (e := (1 : Int32)) (by decide) (Nat.le_of_ble_eq_true rfl) (fun l5_162 _ => ?_)
      refine ee_lv (lv2 := [(5, .int l5_162), (0, .ref l0), (3, .int l3), (4, .int l4)]) rfl ?_
      refine ee_goto (tgt := 129) dD_layPart_165 (by decide) ?_
      refine ee_pick [1, 2, 3, 0] rfl ?_
      exact ih _ _ _ _ w161
def fD_layPart_84 : Nat → Nat → Int32 → Int32 → Int32 → PW → PX
  | 0, _, _, _, _, _ => none
  | n9 + 1, l0, l1, l3, l4, w => (p_getR w l0 10 12).bind fun v87 => (p_ald w v87 0 l1).bind fun v91 => if v91 ≤ l4 then ((p_getI w l0 10 20).bind fun v119 => p_let ((v119 - l3)) fun (l4_124 : Int32) => fD_layPart_129 FUEL l0 l3 l4_124 (0 : Int32) w) else ((p_getR w l0 10 13).bind fun v97 => (p_ald w v97 0 (((300 : Int32) * l1) + l4)).bind fun v108 => (p_obj w l0 10).bind fun _ => p_call (fD_lay l0 v108 w) <| p_kV fun w109 => p_let (l4 + (1 : Int32)) fun (l4_112 : Int32) => (fD_layPart_84 n9) l0 l1 l3 l4_112 w109)
set_option maxRecDepth 20000 in
set_option maxHeartbeats 2000000 in
theorem t_fD_layPart_84 {Γ : PG} : ∀ (n9 : Nat) (l0 : Nat) (l1 : Int32) (l3 : Int32) (l4 : Int32) (w : PW), EE Γ MD_layPart 84 [(0, .ref l0), (1, .int l1), (3, .int l3), (4, .int l4)] [] w (fD_layPart_84 n9 l0 l1 l3 l4 w) := by
  intro n9
  induction n9 with
  | zero => intro l0 l1 l3 l4 w; exact ee_none
  | succ n9 ih =>
    intro l0 l1 l3 l4 w
    unfold fD_layPart_84
    refine ee_iload 3 dD_layPart_84 rfl ?_
    refine ee_aload_n 0 dD_layPart_86 rfl ?_
    refine ee_getR dD_layPart_87 lfD_35 (fun v87 _ => ?_)
    refine ee_iload_n 1 dD_layPart_90 rfl ?_
    refine ee_iald (t := 0) dD_layPart_91 rfl (fun v91 _ => ?_)
    refine ee_icmp_ge (tgt := 118) dD_layPart_92 (by decide) (fun h92 => ?_) (fun h92 => ?_)
    · refine ee_aload_n 0 dD_layPart_118 rfl ?_
      refine ee_getI dD_layPart_119 lfD_212 (fun v119 _ => ?_)
      refine ee_iload_n 2 dD_layPart_122 rfl ?_
      refine ee_isub dD_layPart_123 ?_
      refine ee_letI (fun l4_124 _ => ?_)
      refine ee_istore (lv2 := [(4, .int l4_124), (0, .ref l0), (1, .int l1), (3, .int l3)]) dD_layPart_124 (Nat.le_of_ble_eq_true rfl) rfl ?_
      refine ee_iconst (v := (0 : Int32)) dD_layPart_126 (by decide) ?_
      refine ee_istore (lv2 := [(5, .int (0 : Int32)), (4, .int l4_124), (0, .ref l0), (1, .int l1), (3, .int l3)]) dD_layPart_127 (Nat.le_of_ble_eq_true rfl) rfl ?_
      refine ee_pick [2, 4, 1, 0] rfl ?_
      exact t_fD_layPart_129 FUEL _ _ _ _ w
    · refine ee_aload_n 0 dD_layPart_95 rfl ?_
      refine ee_aload_n 0 dD_layPart_96 rfl ?_
      refine ee_getR dD_layPart_97 lfD_38 (fun v97 _ => ?_)
      refine ee_sipush (v := (300 : Int32)) dD_layPart_100 (by decide) ?_
      refine ee_iload_n 1 dD_layPart_103 rfl ?_
      refine ee_imul dD_layPart_104 ?_
      refine ee_iload 3 dD_layPart_105 rfl ?_
      refine ee_iadd dD_layPart_107 ?_
      refine ee_iald (t := 0) dD_layPart_108 rfl (fun v108 _ => ?_)
      refine ee_bind (fun _ ho109 => ?_)
      refine ee_callV (as := [.int v108]) (st := []) dD_layPart_109 (t_fD_lay l0 v108 w) my_fD_lay.1 (Nat.le_of_ble_eq_true rfl) my_fD_lay.2 rfl cf_10.1 rfl (p_obj_eq.mp ho109) gw_1425 gw_1427 gw_22 ⟨Nat.le_of_ble_eq_true rfl, Nat.le_of_ble_eq_true rfl⟩ (Nat.le_of_ble_eq_true rfl) (fun rv109 w109 _ => ?_)
      refine ee_kV ?_
      refine ee_iinc 3 dD_layPart_112 rfl (e := (1 : Int32)) (by decide) (Nat.le_of_ble_eq_true rfl) (fun l4_112 _ => ?_)
      refine ee_lv (lv2 := [(4, .int l4_112), (0, .ref l0), (1, .int l1), (3, .int l3)]) rfl ?_
      refine ee_goto (tgt := 84) dD_layPart_115 (by decide) ?_
      refine ee_pick [1, 2, 3, 0] rfl ?_
      exact ih _ _ _ _ w109
def fD_layPart_67 (l0 : Nat) (l1 : Int32) (l3 : Int32) (w : PW) : PX := (p_obj w l0 10).bind fun _ => p_call (fD_lay l0 (255 : Int32) w) <| p_kV fun w71 => (p_obj w71 l0 10).bind fun _ => p_call (fD_lay l0 (147 : Int32) w71) <| p_kV fun w78 => fD_layPart_84 FUEL l0 l1 l3 (0 : Int32) w78
set_option maxRecDepth 20000 in
set_option maxHeartbeats 2000000 in
theorem t_fD_layPart_67 {Γ : PG} : ∀ (l0 : Nat) (l1 : Int32) (l3 : Int32) (w : PW), EE Γ MD_layPart 67 [(0, .ref l0), (1, .int l1), (3, .int l3)] [] w (fD_layPart_67 l0 l1 l3 w) := by
  intro l0 l1 l3 w
  unfold fD_layPart_67
  refine ee_aload_n 0 dD_layPart_67 rfl ?_
  refine ee_sipush (v := (255 : Int32)) dD_layPart_68 (by decide) ?_
  refine ee_bind (fun _ ho71 => ?_)
  refine ee_callV (as := [.int (255 : Int32)]) (st := []) dD_layPart_71 (t_fD_lay l0 (255 : Int32) w) my_fD_lay.1 (Nat.le_of_ble_eq_true rfl) my_fD_lay.2 rfl cf_10.1 rfl (p_obj_eq.mp ho71) gw_1425 gw_1427 gw_22 ⟨Nat.le_of_ble_eq_true rfl, Nat.le_of_ble_eq_true rfl⟩ (Nat.le_of_ble_eq_true rfl) (fun rv71 w71 _ => ?_)
  refine ee_kV ?_
  refine ee_aload_n 0 dD_layPart_74 rfl ?_
  refine ee_sipush (v := (147 : Int32)) dD_layPart_75 (by decide) ?_
  refine ee_bind (fun _ ho78 => ?_)
  refine ee_callV (as := [.int (147 : Int32)]) (st := []) dD_layPart_78 (t_fD_lay l0 (147 : Int32) w71) my_fD_lay.1 (Nat.le_of_ble_eq_true rfl) my_fD_lay.2 rfl cf_10.1 rfl (p_obj_eq.mp ho78) gw_1425 gw_1427 gw_22 ⟨Nat.le_of_ble_eq_true rfl, Nat.le_of_ble_eq_true rfl⟩ (Nat.le_of_ble_eq_true rfl) (fun rv78 w78 _ => ?_)
  refine ee_kV ?_
  refine ee_iconst (v := (0 : Int32)) dD_layPart_81 (by decide) ?_
  refine ee_istore (lv2 := [(4, .int (0 : Int32)), (0, .ref l0), (1, .int l1), (3, .int l3)]) dD_layPart_82 (Nat.le_of_ble_eq_true rfl) rfl ?_
  refine ee_pick [1, 2, 3, 0] rfl ?_
  exact t_fD_layPart_84 FUEL _ _ _ _ w78
def fD_layPart_53 (l0 : Nat) (l1 : Int32) (l3 : Int32) (w : PW) : PX := (p_getR w l0 10 10).bind fun v54 => (p_ald w v54 0 l1).bind fun v58 => if v58 ≤ 0 then (fD_layPart_67 l0 l1 l3 w) else ((p_obj w l0 10).bind fun _ => p_call (fD_layLengths l0 l1 w) <| p_kV fun w64 => fD_layPart_67 l0 l1 l3 w64)
set_option maxRecDepth 20000 in
set_option maxHeartbeats 2000000 in
theorem t_fD_layPart_53 {Γ : PG} : ∀ (l0 : Nat) (l1 : Int32) (l3 : Int32) (w : PW), EE Γ MD_layPart 53 [(0, .ref l0), (1, .int l1), (3, .int l3)] [] w (fD_layPart_53 l0 l1 l3 w) := by
  intro l0 l1 l3 w
  unfold fD_layPart_53
  refine ee_aload_n 0 dD_layPart_53 rfl ?_
  refine ee_getR dD_layPart_54 lfD_29 (fun v54 _ => ?_)
  refine ee_iload_n 1 dD_layPart_57 rfl ?_
  refine ee_iald (t := 0) dD_layPart_58 rfl (fun v58 _ => ?_)
  refine ee_if_le (tgt := 67) dD_layPart_59 (by decide) (fun h59 => ?_) (fun h59 => ?_)
  · exact t_fD_layPart_67 _ _ _ w
  · refine ee_aload_n 0 dD_layPart_62 rfl ?_
    refine ee_iload_n 1 dD_layPart_63 rfl ?_
    refine ee_bind (fun _ ho64 => ?_)
    refine ee_callV (as := [.int l1]) (st := []) dD_layPart_64 (t_fD_layLengths l0 l1 w) my_fD_layLengths.1 (Nat.le_of_ble_eq_true rfl) my_fD_layLengths.2 rfl cf_10.1 rfl (p_obj_eq.mp ho64) gw_1459 gw_1461 gw_30 ⟨Nat.le_of_ble_eq_true rfl, Nat.le_of_ble_eq_true rfl⟩ (Nat.le_of_ble_eq_true rfl) (fun rv64 w64 _ => ?_)
    refine ee_kV ?_
    exact t_fD_layPart_67 _ _ _ w64
def fD_layPart (l0 : Nat) (l1 : Int32) (l2 : Int32) (w : PW) : PX := (p_getI w l0 10 20).bind fun v1 => (p_obj w l0 10).bind fun _ => p_call (fD_layMark l0 (144 : Int32) (10 : Int32) w) <| p_kV fun w11 => (p_getR w11 l0 10 9).bind fun v16 => (p_ald w11 v16 0 l1).bind fun v20 => (p_obj w11 l0 10).bind fun _ => p_call (fD_layTwo l0 v20 w11) <| p_kV fun w21 => (p_obj w21 l0 10).bind fun _ => p_call (fD_layFour l0 (0 : Int32) w21) <| p_kV fun w26 => (p_obj w26 l0 10).bind fun _ => p_call (fD_lay l0 l2 w26) <| p_kV fun w31 => (p_obj w31 l0 10).bind fun _ => p_call (fD_lay l0 (0 : Int32) w31) <| p_kV fun w36 => if ¬ l2 = 0 then (fD_layPart_53 l0 l1 v1 w36) else ((p_getR w36 l0 10 9).bind fun v45 => (p_ald w36 v45 0 l1).bind fun v49 => (p_obj w36 l0 10).bind fun _ => p_call (fD_laySegments l0 v49 w36) <| p_kV fun w50 => fD_layPart_53 l0 l1 v1 w50)
set_option maxRecDepth 20000 in
set_option maxHeartbeats 2000000 in
theorem t_fD_layPart {Γ : PG} : ∀ (l0 : Nat) (l1 : Int32) (l2 : Int32) (w : PW), EE Γ MD_layPart 0 (lv_args 0 [.ref l0, .int l1, .int l2]) [] w (fD_layPart l0 l1 l2 w) := by
  intro l0 l1 l2 w
  unfold fD_layPart
  show EE Γ MD_layPart 0 [(0, .ref l0), (1, .int l1), (2, .int l2)] [] w _
  refine ee_aload_n 0 dD_layPart_0 rfl ?_
  refine ee_getI dD_layPart_1 lfD_212 (fun v1 _ => ?_)
  refine ee_istore_n (lv2 := [(3, .int v1), (0, .ref l0), (1, .int l1), (2, .int l2)]) dD_layPart_4 (Nat.le_of_ble_eq_true rfl) rfl ?_
  refine ee_aload_n 1 dD_layPart_5 rfl ?_
  refine ee_sipush (v := (144 : Int32)) dD_layPart_6 (by decide) ?_
  refine ee_bipush (v := (10 : Int32)) dD_layPart_9 (by decide) ?_
  refine ee_bind (fun _ ho11 => ?_)
  refine ee_callV (as := [.int (144 : Int32), .int (10 : Int32)]) (st := []) dD_layPart_11 (t_fD_layMark l0 (144 : Int32) (10 : Int32) w) my_fD_layMark.1 (Nat.le_of_ble_eq_true rfl) my_fD_layMark.2 rfl cf_10.1 rfl (p_obj_eq.mp ho11) gw_1439 gw_1441 gw_25 ⟨Nat.le_of_ble_eq_true rfl, Nat.le_of_ble_eq_true rfl⟩ (Nat.le_of_ble_eq_true rfl) (fun rv11 w11 _ => ?_)
  refine ee_kV ?_
  refine ee_aload_n 1 dD_layPart_14 rfl ?_
  refine ee_aload_n 1 dD_layPart_15 rfl ?_
  refine ee_getR dD_layPart_16 lfD_26 (fun v16 _ => ?_)
  refine ee_iload_n 2 dD_layPart_19 rfl ?_
  refine ee_iald (t := 0) dD_layPart_20 rfl (fun v20 _ => ?_)
  refine ee_bind (fun _ ho21 => ?_)
  refine ee_callV (as := [.int v20]) (st := []) dD_layPart_21 (t_fD_layTwo l0 v20 w11) my_fD_layTwo.1 (Nat.le_of_ble_eq_true rfl) my_fD_layTwo.2 rfl cf_10.1 rfl (p_obj_eq.mp ho21) gw_1421 gw_1423 gw_21 ⟨Nat.le_of_ble_eq_true rfl, Nat.le_of_ble_eq_true rfl⟩ (Nat.le_of_ble_eq_true rfl) (fun rv21 w21 _ => ?_)
  refine ee_kV ?_
  refine ee_aload_n 1 dD_layPart_24 rfl ?_
  refine ee_iconst (v := (0 : Int32)) dD_layPart_25 (by decide) ?_
  refine ee_bind (fun _ ho26 => ?_)
  refine ee_callV (as := [.int (0 : Int32)]) (st := []) dD_layPart_26 (t_fD_layFour l0 (0 : Int32) w21) my_fD_layFour.1 (Nat.le_of_ble_eq_true rfl) my_fD_layFour.2 rfl cf_10.1 rfl (p_obj_eq.mp ho26) gw_1417 gw_1419 gw_20 ⟨Nat.le_of_ble_eq_true rfl, Nat.le_of_ble_eq_true rfl⟩ (Nat.le_of_ble_eq_true rfl) (fun rv26 w26 _ => ?_)
  refine ee_kV ?_
  refine ee_aload_n 1 dD_layPart_29 rfl ?_
  refine ee_iload_n 3 dD_layPart_30 rfl ?_
  refine ee_bind (fun _ ho31 => ?_)
  refine ee_callV (as := [.int l2]) (st := []) dD_layPart_31 (t_fD_lay l0 l2 w26) my_fD_lay.1 (Nat.le_of_ble_eq_true rfl) my_fD_lay.2 rfl cf_10.1 rfl (p_obj_eq.mp ho31) gw_1425 gw_1427 gw_22 ⟨Nat.le_of_ble_eq_true rfl, Nat.le_of_ble_eq_true rfl⟩ (Nat.le_of_ble_eq_true rfl) (fun rv31 w31 _ => ?_)
  refine ee_kV ?_
  refine ee_aload_n 1 dD_layPart_34 rfl ?_
  refine ee_iconst (v := (0 : Int32)) dD_layPart_35 (by decide) ?_
  refine ee_bind (fun _ ho36 => ?_)
  refine ee_callV (as := [.int (0 : Int32)]) (st := []) dD_layPart_36 (t_fD_lay l0 (0 : Int32) w31) my_fD_lay.1 (Nat.le_of_ble_eq_true rfl) my_fD_lay.2 rfl cf_10.1 rfl (p_obj_eq.mp ho36) gw_1425 gw_1427 gw_22 ⟨Nat.le_of_ble_eq_true rfl, Nat.le_of_ble_eq_true rfl⟩ (Nat.le_of_ble_eq_true rfl) (fun rv36 w36 _ => ?_)
  refine ee_kV ?_
  refine ee_iload_n 3 dD_layPart_39 rfl ?_
  refine ee_if_ne (tgt := 53) dD_layPart_40 (by decide) (fun h40 => ?_) (fun h40 => ?_)
  · refine ee_pick [1, 2, 0] rfl ?_
    exact t_fD_layPart_53 _ _ _ w36
  · refine ee_aload_n 1 dD_layPart_43 rfl ?_
    refine ee_aload_n 1 dD_layPart_44 rfl ?_
    refine ee_getR dD_layPart_45 lfD_26 (fun v45 _ => ?_)
    refine ee_iload_n 2 dD_layPart_48 rfl ?_
    refine ee_iald (t := 0) dD_layPart_49 rfl (fun v49 _ => ?_)
    refine ee_bind (fun _ ho50 => ?_)
    refine ee_callV (as := [.int v49]) (st := []) dD_layPart_50 (t_fD_laySegments l0 v49 w36) my_fD_laySegments.1 (Nat.le_of_ble_eq_true rfl) my_fD_laySegments.2 rfl cf_10.1 rfl (p_obj_eq.mp ho50) gw_1443 gw_1445 gw_26 ⟨Nat.le_of_ble_eq_true rfl, Nat.le_of_ble_eq_true rfl⟩ (Nat.le_of_ble_eq_true rfl) (fun rv50 w50 _ => ?_)
    refine ee_kV ?_
    refine ee_pick [1, 2, 0] rfl ?_
    exact t_fD_layPart_53 _ _ _ w50
def fD_layStream_190 (k_152 : Nat → Int32 → PW → PX) (k_164 : Nat → Int32 → Int32 → Int32 → PW → PX) (l0 : Nat) (l1 : Int32) (l3 : Int32) (s0 : Int32) (s1 : Int32) (w : PW) : PX := p_let ((s1 + s0)) fun (l2_191 : Int32) => p_let (l3 + (1 : Int32)) fun (l3_192 : Int32) => k_164 l0 l1 l2_191 l3_192 w
set_option maxRecDepth 20000 in
set_option maxHeartbeats 2000000 in
theorem t_fD_layStream_190 {Γ : PG} {k_152 : Nat → Int32 → PW → PX} {k_164 : Nat → Int32 → Int32 → Int32 → PW → PX} (hk_152 : ∀ (l0 : Nat) (l1 : Int32) (w : PW), EE Γ MD_layStream 152 [(0, .ref l0), (1, .int l1)] [] w (k_152 l0 l1 w)) (hk_164 : ∀ (l0 : Nat) (l1 : Int32) (l2 : Int32) (l3 : Int32) (w : PW), EE Γ MD_layStream 164 [(0, .ref l0), (1, .int l1), (2, .int l2), (3, .int l3)] [] w (k_164 l0 l1 l2 l3 w)) : ∀ (l0 : Nat) (l1 : Int32) (l3 : Int32) (s0 : Int32) (s1 : Int32) (w : PW), EE Γ MD_layStream 190 [(0, .ref l0), (1, .int l1), (3, .int l3)] [.int s0, .int s1] w (fD_layStream_190 k_152 k_164 l0 l1 l3 s0 s1 w) := by
  intro l0 l1 l3 s0 s1 w
  unfold fD_layStream_190
  refine ee_iadd dD_layStream_190 ?_
  refine ee_letI (fun l2_191 _ => ?_)
  refine ee_istore_n (lv2 := [(2, .int l2_191), (0, .ref l0), (1, .int l1), (3, .int l3)]) dD_layStream_191 (Nat.le_of_ble_eq_true rfl) rfl ?_
  refine ee_iinc 3 dD_layStream_192 rfl (e := (1 : Int32)) (by decide) (Nat.le_of_ble_eq_true rfl) (fun l3_192 _ => ?_)
  refine ee_lv (lv2 := [(3, .int l3_192), (2, .int l2_191), (0, .ref l0), (1, .int l1)]) rfl ?_
  refine ee_goto (tgt := 164) dD_layStream_195 (by decide) ?_
  refine ee_pick [2, 3, 1, 0] rfl ?_
  exact hk_164 _ _ _ _ w
def fD_layStream_164 (k_152 : Nat → Int32 → PW → PX) : Nat → Nat → Int32 → Int32 → Int32 → PW → PX
  | 0, _, _, _, _, _ => none
  | n9 + 1, l0, l1, l2, l3, w => if l1 ≤ l3 then ((p_obj w l0 10).bind fun _ => p_call (fD_layPart l0 l1 l2 w) <| p_kV fun w201 => p_let (l1 + (1 : Int32)) fun (l1_204 : Int32) => k_152 l0 l1_204 w201) else ((p_getR w l0 10 9).bind fun v171 => (p_ald w v171 0 l3).bind fun v175 => (p_getR w l0 10 9).bind fun v177 => (p_ald w v177 0 l1).bind fun v181 => if ¬ v175 = v181 then (fD_layStream_190 k_152 (fD_layStream_164 k_152 n9) l0 l1 l3 (0 : Int32) l2 w) else (fD_layStream_190 k_152 (fD_layStream_164 k_152 n9) l0 l1 l3 (1 : Int32) l2 w))
set_option maxRecDepth 20000 in
set_option maxHeartbeats 2000000 in
theorem t_fD_layStream_164 {Γ : PG} {k_152 : Nat → Int32 → PW → PX} (hk_152 : ∀ (l0 : Nat) (l1 : Int32) (w : PW), EE Γ MD_layStream 152 [(0, .ref l0), (1, .int l1)] [] w (k_152 l0 l1 w)) : ∀ (n9 : Nat) (l0 : Nat) (l1 : Int32) (l2 : Int32) (l3 : Int32) (w : PW), EE Γ MD_layStream 164 [(0, .ref l0), (1, .int l1), (2, .int l2), (3, .int l3)] [] w (fD_layStream_164 k_152 n9 l0 l1 l2 l3 w) := by
  intro n9
  induction n9 with
  | zero => intro l0 l1 l2 l3 w; exact ee_none
  | succ n9 ih =>
    intro l0 l1 l2 l3 w
    unfold fD_layStream_164
    refine ee_iload_n 3 dD_layStream_164 rfl ?_
    refine ee_iload_n 1 dD_layStream_165 rfl ?_
    refine ee_icmp_ge (tgt := 198) dD_layStream_166 (by decide) (fun h166 => ?_) (fun h166 => ?_)
    · refine ee_aload_n 0 dD_layStream_198 rfl ?_
      refine ee_iload_n 1 dD_layStream_199 rfl ?_
      refine ee_iload_n 2 dD_layStream_200 rfl ?_
      refine ee_bind (fun _ ho201 => ?_)
      refine ee_callV (as := [.int l1, .int l2]) (st := []) dD_layStream_201 (t_fD_layPart l0 l1 l2 w) my_fD_layPart.1 (Nat.le_of_ble_eq_true rfl) my_fD_layPart.2 rfl cf_10.1 rfl (p_obj_eq.mp ho201) gw_1455 gw_1457 gw_29 ⟨Nat.le_of_ble_eq_true rfl, Nat.le_of_ble_eq_true rfl⟩ (Nat.le_of_ble_eq_true rfl) (fun rv201 w201 _ => ?_)
      refine ee_kV ?_
      refine ee_iinc 1 dD_layStream_204 rfl (e := (1 : Int32)) (by decide) (Nat.le_of_ble_eq_true rfl) (fun l1_204 _ => ?_)
      refine ee_lv (lv2 := [(1, .int l1_204), (0, .ref l0), (2, .int l2), (3, .int l3)]) rfl ?_
      refine ee_goto (tgt := 152) dD_layStream_207 (by decide) ?_
      refine ee_pick [1, 0] rfl ?_
      exact hk_152 _ _ w201
    · refine ee_iload_n 2 dD_layStream_169 rfl ?_
      refine ee_aload_n 0 dD_layStream_170 rfl ?_
      refine ee_getR dD_layStream_171 lfD_26 (fun v171 _ => ?_)
      refine ee_iload_n 3 dD_layStream_174 rfl ?_
      refine ee_iald (t := 0) dD_layStream_175 rfl (fun v175 _ => ?_)
      refine ee_aload_n 0 dD_layStream_176 rfl ?_
      refine ee_getR dD_layStream_177 lfD_26 (fun v177 _ => ?_)
      refine ee_iload_n 1 dD_layStream_180 rfl ?_
      refine ee_iald (t := 0) dD_layStream_181 rfl (fun v181 _ => ?_)
      refine ee_icmp_ne (tgt := 189) dD_layStream_182 (by decide) (fun h182 => ?_) (fun h182 => ?_)
      · refine ee_iconst (v := (0 : Int32)) dD_layStream_189 (by decide) ?_
        refine ee_pick [0, 1, 3] rfl ?_
        exact t_fD_layStream_190 hk_152 ih _ _ _ _ _ w
      · refine ee_iconst (v := (1 : Int32)) dD_layStream_185 (by decide) ?_
        refine ee_goto (tgt := 190) dD_layStream_186 (by decide) ?_
        refine ee_pick [0, 1, 3] rfl ?_
        exact t_fD_layStream_190 hk_152 ih _ _ _ _ _ w
def fD_layStream_152 : Nat → Nat → Int32 → PW → PX
  | 0, _, _, _ => none
  | n9 + 1, l0, l1, w => (p_getI w l0 10 8).bind fun v154 => if v154 ≤ l1 then ((p_obj w l0 10).bind fun _ => p_call (fD_lay l0 (255 : Int32) w) <| p_kV fun w214 => (p_obj w214 l0 10).bind fun _ => p_call (fD_lay l0 (217 : Int32) w214) <| p_kV fun w221 => some (.inl none, w221)) else (fD_layStream_164 (fD_layStream_152 n9) FUEL l0 l1 (0 : Int32) (0 : Int32) w)
set_option maxRecDepth 20000 in
set_option maxHeartbeats 2000000 in
theorem t_fD_layStream_152 {Γ : PG} : ∀ (n9 : Nat) (l0 : Nat) (l1 : Int32) (w : PW), EE Γ MD_layStream 152 [(0, .ref l0), (1, .int l1)] [] w (fD_layStream_152 n9 l0 l1 w) := by
  intro n9
  induction n9 with
  | zero => intro l0 l1 w; exact ee_none
  | succ n9 ih =>
    intro l0 l1 w
    unfold fD_layStream_152
    refine ee_iload_n 1 dD_layStream_152 rfl ?_
    refine ee_aload_n 0 dD_layStream_153 rfl ?_
    refine ee_getI dD_layStream_154 lfD_145 (fun v154 _ => ?_)
    refine ee_icmp_ge (tgt := 210) dD_layStream_157 (by decide) (fun h157 => ?_) (fun h157 => ?_)
    · refine ee_aload_n 0 dD_layStream_210 rfl ?_
      refine ee_sipush (v := (255 : Int32)) dD_layStream_211 (by decide) ?_
      refine ee_bind (fun _ ho214 => ?_)
      refine ee_callV (as := [.int (255 : Int32)]) (st := []) dD_layStream_214 (t_fD_lay l0 (255 : Int32) w) my_fD_lay.1 (Nat.le_of_ble_eq_true rfl) my_fD_lay.2 rfl cf_10.1 rfl (p_obj_eq.mp ho214) gw_1425 gw_1427 gw_22 ⟨Nat.le_of_ble_eq_true rfl, Nat.le_of_ble_eq_true rfl⟩ (Nat.le_of_ble_eq_true rfl) (fun rv214 w214 _ => ?_)
      refine ee_kV ?_
      refine ee_aload_n 0 dD_layStream_217 rfl ?_
      refine ee_sipush (v := (217 : Int32)) dD_layStream_218 (by decide) ?_
      refine ee_bind (fun _ ho221 => ?_)
      refine ee_callV (as := [.int (217 : Int32)]) (st := []) dD_layStream_221 (t_fD_lay l0 (217 : Int32) w214) my_fD_lay.1 (Nat.le_of_ble_eq_true rfl) my_fD_lay.2 rfl cf_10.1 rfl (p_obj_eq.mp ho221) gw_1425 gw_1427 gw_22 ⟨Nat.le_of_ble_eq_true rfl, Nat.le_of_ble_eq_true rfl⟩ (Nat.le_of_ble_eq_true rfl) (fun rv221 w221 _ => ?_)
      refine ee_kV ?_
      exact ee_vret rfl dD_layStream_224
    · refine ee_iconst (v := (0 : Int32)) dD_layStream_160 (by decide) ?_
      refine ee_istore_n (lv2 := [(2, .int (0 : Int32)), (0, .ref l0), (1, .int l1)]) dD_layStream_161 (Nat.le_of_ble_eq_true rfl) rfl ?_
      refine ee_iconst (v := (0 : Int32)) dD_layStream_162 (by decide) ?_
      refine ee_istore_n (lv2 := [(3, .int (0 : Int32)), (2, .int (0 : Int32)), (0, .ref l0), (1, .int l1)]) dD_layStream_163 (Nat.le_of_ble_eq_true rfl) rfl ?_
      refine ee_pick [2, 3, 1, 0] rfl ?_
      exact t_fD_layStream_164 ih FUEL _ _ _ _ w
def fD_layStream_107 : Nat → Nat → Int32 → PW → PX
  | 0, _, _, _ => none
  | n9 + 1, l0, l1, w => (p_getR w l0 10 7).bind fun v109 => (p_ald w v109 0 (2 : Int32)).bind fun v113 => if v113 ≤ l1 then ((p_obj w l0 10).bind fun _ => p_call (fD_laySegments l0 (-1 : Int32) w) <| p_kV fun w147 => fD_layStream_152 FUEL l0 (0 : Int32) w147) else ((p_getR w l0 10 6).bind fun v119 => (p_ald w v119 0 l1).bind fun v123 => (p_obj w l0 10).bind fun _ => p_call (fD_lay l0 (v123 - (1 : Int32)) w) <| p_kV fun w126 => (p_obj w126 l0 10).bind fun _ => p_call (fD_lay l0 (1 : Int32) w126) <| p_kV fun w131 => (p_obj w131 l0 10).bind fun _ => p_call (fD_lay l0 (1 : Int32) w131) <| p_kV fun w136 => p_let (l1 + (1 : Int32)) fun (l1_139 : Int32) => (fD_layStream_107 n9) l0 l1_139 w136)
set_option maxRecDepth 20000 in
set_option maxHeartbeats 2000000 in
theorem t_fD_layStream_107 {Γ : PG} : ∀ (n9 : Nat) (l0 : Nat) (l1 : Int32) (w : PW), EE Γ MD_layStream 107 [(0, .ref l0), (1, .int l1)] [] w (fD_layStream_107 n9 l0 l1 w) := by
  intro n9
  induction n9 with
  | zero => intro l0 l1 w; exact ee_none
  | succ n9 ih =>
    intro l0 l1 w
    unfold fD_layStream_107
    refine ee_iload_n 1 dD_layStream_107 rfl ?_
    refine ee_aload_n 0 dD_layStream_108 rfl ?_
    refine ee_getR dD_layStream_109 lfD_23 (fun v109 _ => ?_)
    refine ee_iconst (v := (2 : Int32)) dD_layStream_112 (by decide) ?_
    refine ee_iald (t := 0) dD_layStream_113 rfl (fun v113 _ => ?_)
    refine ee_icmp_ge (tgt := 145) dD_layStream_114 (by decide) (fun h114 => ?_) (fun h114 => ?_)
    · refine ee_aload_n 0 dD_layStream_145 rfl ?_
      refine ee_iconst (v := (-1 : Int32)) dD_layStream_146 (by decide) ?_
      refine ee_bind (fun _ ho147 => ?_)
      refine ee_callV (as := [.int (-1 : Int32)]) (st := []) dD_layStream_147 (t_fD_laySegments l0 (-1 : Int32) w) my_fD_laySegments.1 (Nat.le_of_ble_eq_true rfl) my_fD_laySegments.2 rfl cf_10.1 rfl (p_obj_eq.mp ho147) gw_1443 gw_1445 gw_26 ⟨Nat.le_of_ble_eq_true rfl, Nat.le_of_ble_eq_true rfl⟩ (Nat.le_of_ble_eq_true rfl) (fun rv147 w147 _ => ?_)
      refine ee_kV ?_
      refine ee_iconst (v := (0 : Int32)) dD_layStream_150 (by decide) ?_
      refine ee_istore_n (lv2 := [(1, .int (0 : Int32)), (0, .ref l0)]) dD_layStream_151 (Nat.le_of_ble_eq_true rfl) rfl ?_
      refine ee_pick [1, 0] rfl ?_
      exact t_fD_layStream_152 FUEL _ _ w147
    · refine ee_aload_n 0 dD_layStream_117 rfl ?_
      refine ee_aload_n 0 dD_layStream_118 rfl ?_
      refine ee_getR dD_layStream_119 lfD_20 (fun v119 _ => ?_)
      refine ee_iload_n 1 dD_layStream_122 rfl ?_
      refine ee_iald (t := 0) dD_layStream_123 rfl (fun v123 _ => ?_)
      refine ee_iconst (v := (1 : Int32)) dD_layStream_124 (by decide) ?_
      refine ee_isub dD_layStream_125 ?_
      refine ee_bind (fun _ ho126 => ?_)
      refine ee_callV (as := [.int (v123 - (1 : Int32))]) (st := []) dD_layStream_126 (t_fD_lay l0 (v123 - (1 : Int32)) w) my_fD_lay.1 (Nat.le_of_ble_eq_true rfl) my_fD_lay.2 rfl cf_10.1 rfl (p_obj_eq.mp ho126) gw_1425 gw_1427 gw_22 ⟨Nat.le_of_ble_eq_true rfl, Nat.le_of_ble_eq_true rfl⟩ (Nat.le_of_ble_eq_true rfl) (fun rv126 w126 _ => ?_)
      refine ee_kV ?_
      refine ee_aload_n 0 dD_layStream_129 rfl ?_
      refine ee_iconst (v := (1 : Int32)) dD_layStream_130 (by decide) ?_
      refine ee_bind (fun _ ho131 => ?_)
      refine ee_callV (as := [.int (1 : Int32)]) (st := []) dD_layStream_131 (t_fD_lay l0 (1 : Int32) w126) my_fD_lay.1 (Nat.le_of_ble_eq_true rfl) my_fD_lay.2 rfl cf_10.1 rfl (p_obj_eq.mp ho131) gw_1425 gw_1427 gw_22 ⟨Nat.le_of_ble_eq_true rfl, Nat.le_of_ble_eq_true rfl⟩ (Nat.le_of_ble_eq_true rfl) (fun rv131 w131 _ => ?_)
      refine ee_kV ?_
      refine ee_aload_n 0 dD_layStream_134 rfl ?_
      refine ee_iconst (v := (1 : Int32)) dD_layStream_135 (by decide) ?_
      refine ee_bind (fun _ ho136 => ?_)
      refine ee_callV (as := [.int (1 : Int32)]) (st := []) dD_layStream_136 (t_fD_lay l0 (1 : Int32) w131) my_fD_lay.1 (Nat.le_of_ble_eq_true rfl) my_fD_lay.2 rfl cf_10.1 rfl (p_obj_eq.mp ho136) gw_1425 gw_1427 gw_22 ⟨Nat.le_of_ble_eq_true rfl, Nat.le_of_ble_eq_true rfl⟩ (Nat.le_of_ble_eq_true rfl) (fun rv136 w136 _ => ?_)
      refine ee_kV ?_
      refine ee_iinc 1 dD_layStream_139 rfl (e := (1 : Int32)) (by decide) (Nat.le_of_ble_eq_true rfl) (fun l1_139 _ => ?_)
      refine ee_lv (lv2 := [(1, .int l1_139), (0, .ref l0)]) rfl ?_
      refine ee_goto (tgt := 107) dD_layStream_142 (by decide) ?_
      refine ee_pick [1, 0] rfl ?_
      exact ih _ _ w136
def fD_layStream (l0 : Nat) (w : PW) : PX := (p_obj w l0 10).bind fun _ => p_call (fD_lay l0 (255 : Int32) w) <| p_kV fun w4 => (p_obj w4 l0 10).bind fun _ => p_call (fD_lay l0 (79 : Int32) w4) <| p_kV fun w10 => (p_getR w10 l0 10 7).bind fun v20 => (p_ald w10 v20 0 (2 : Int32)).bind fun v24 => (p_obj w10 l0 10).bind fun _ => p_call (fD_layMark l0 (81 : Int32) ((38 : Int32) + ((3 : Int32) * v24)) w10) <| p_kV fun w27 => (p_obj w27 l0 10).bind fun _ => p_call (fD_layTwo l0 (0 : Int32) w27) <| p_kV fun w32 => (p_getR w32 l0 10 7).bind fun v37 => (p_ald w32 v37 0 (0 : Int32)).bind fun v41 => (p_obj w32 l0 10).bind fun _ => p_call (fD_layFour l0 v41 w32) <| p_kV fun w42 => (p_getR w42 l0 10 7).bind fun v47 => (p_ald w42 v47 0 (1 : Int32)).bind fun v51 => (p_obj w42 l0 10).bind fun _ => p_call (fD_layFour l0 v51 w42) <| p_kV fun w52 => (p_obj w52 l0 10).bind fun _ => p_call (fD_layFour l0 (0 : Int32) w52) <| p_kV fun w57 => (p_obj w57 l0 10).bind fun _ => p_call (fD_layFour l0 (0 : Int32) w57) <| p_kV fun w62 => (p_getR w62 l0 10 7).bind fun v67 => (p_ald w62 v67 0 (3 : Int32)).bind fun v71 => (p_obj w62 l0 10).bind fun _ => p_call (fD_layFour l0 v71 w62) <| p_kV fun w72 => (p_getR w72 l0 10 7).bind fun v77 => (p_ald w72 v77 0 (4 : Int32)).bind fun v81 => (p_obj w72 l0 10).bind fun _ => p_call (fD_layFour l0 v81 w72) <| p_kV fun w82 => (p_obj w82 l0 10).bind fun _ => p_call (fD_layFour l0 (0 : Int32) w82) <| p_kV fun w87 => (p_obj w87 l0 10).bind fun _ => p_call (fD_layFour l0 (0 : Int32) w87) <| p_kV fun w92 => (p_getR w92 l0 10 7).bind fun v97 => (p_ald w92 v97 0 (2 : Int32)).bind fun v101 => (p_obj w92 l0 10).bind fun _ => p_call (fD_layTwo l0 v101 w92) <| p_kV fun w102 => fD_layStream_107 FUEL l0 (0 : Int32) w102
set_option maxRecDepth 20000 in
set_option maxHeartbeats 2000000 in
theorem t_fD_layStream {Γ : PG} : ∀ (l0 : Nat) (w : PW), EE Γ MD_layStream 0 (lv_args 0 [.ref l0]) [] w (fD_layStream l0 w) := by
  intro l0 w
  unfold fD_layStream
  show EE Γ MD_layStream 0 [(0, .ref l0)] [] w _
  refine ee_aload_n 0 dD_layStream_0 rfl ?_
  refine ee_sipush (v := (255 : Int32)) dD_layStream_1 (by decide) ?_
  refine ee_bind (fun _ ho4 => ?_)
  refine ee_callV (as := [.int (255 : Int32)]) (st := []) dD_layStream_4 (t_fD_lay l0 (255 : Int32) w) my_fD_lay.1 (Nat.le_of_ble_eq_true rfl) my_fD_lay.2 rfl cf_10.1 rfl (p_obj_eq.mp ho4) gw_1425 gw_1427 gw_22 ⟨Nat.le_of_ble_eq_true rfl, Nat.le_of_ble_eq_true rfl⟩ (Nat.le_of_ble_eq_true rfl) (fun rv4 w4 _ => ?_)
  refine ee_kV ?_
  refine ee_aload_n 0 dD_layStream_7 rfl ?_
  refine ee_bipush (v := (79 : Int32)) dD_layStream_8 (by decide) ?_
  refine ee_bind (fun _ ho10 => ?_)
  refine ee_callV (as := [.int (79 : Int32)]) (st := []) dD_layStream_10 (t_fD_lay l0 (79 : Int32) w4) my_fD_lay.1 (Nat.le_of_ble_eq_true rfl) my_fD_lay.2 rfl cf_10.1 rfl (p_obj_eq.mp ho10) gw_1425 gw_1427 gw_22 ⟨Nat.le_of_ble_eq_true rfl, Nat.le_of_ble_eq_true rfl⟩ (Nat.le_of_ble_eq_true rfl) (fun rv10 w10 _ => ?_)
  refine ee_kV ?_
  refine ee_aload_n 0 dD_layStream_13 rfl ?_
  refine ee_bipush (v := (81 : Int32)) dD_layStream_14 (by decide) ?_
  refine ee_bipush (v := (38 : Int32)) dD_layStream_16 (by decide) ?_
  refine ee_iconst (v := (3 : Int32)) dD_layStream_18 (by decide) ?_
  refine ee_aload_n 0 dD_layStream_19 rfl ?_
  refine ee_getR dD_layStream_20 lfD_23 (fun v20 _ => ?_)
  refine ee_iconst (v := (2 : Int32)) dD_layStream_23 (by decide) ?_
  refine ee_iald (t := 0) dD_layStream_24 rfl (fun v24 _ => ?_)
  refine ee_imul dD_layStream_25 ?_
  refine ee_iadd dD_layStream_26 ?_
  refine ee_bind (fun _ ho27 => ?_)
  refine ee_callV (as := [.int (81 : Int32), .int ((38 : Int32) + ((3 : Int32) * v24))]) (st := []) dD_layStream_27 (t_fD_layMark l0 (81 : Int32) ((38 : Int32) + ((3 : Int32) * v24)) w10) my_fD_layMark.1 (Nat.le_of_ble_eq_true rfl) my_fD_layMark.2 rfl cf_10.1 rfl (p_obj_eq.mp ho27) gw_1439 gw_1441 gw_25 ⟨Nat.le_of_ble_eq_true rfl, Nat.le_of_ble_eq_true rfl⟩ (Nat.le_of_ble_eq_true rfl) (fun rv27 w27 _ => ?_)
  refine ee_kV ?_
  refine ee_aload_n 0 dD_layStream_30 rfl ?_
  refine ee_iconst (v := (0 : Int32)) dD_layStream_31 (by decide) ?_
  refine ee_bind (fun _ ho32 => ?_)
  refine ee_callV (as := [.int (0 : Int32)]) (st := []) dD_layStream_32 (t_fD_layTwo l0 (0 : Int32) w27) my_fD_layTwo.1 (Nat.le_of_ble_eq_true rfl) my_fD_layTwo.2 rfl cf_10.1 rfl (p_obj_eq.mp ho32) gw_1421 gw_1423 gw_21 ⟨Nat.le_of_ble_eq_true rfl, Nat.le_of_ble_eq_true rfl⟩ (Nat.le_of_ble_eq_true rfl) (fun rv32 w32 _ => ?_)
  refine ee_kV ?_
  refine ee_aload_n 0 dD_layStream_35 rfl ?_
  refine ee_aload_n 0 dD_layStream_36 rfl ?_
  refine ee_getR dD_layStream_37 lfD_23 (fun v37 _ => ?_)
  refine ee_iconst (v := (0 : Int32)) dD_layStream_40 (by decide) ?_
  refine ee_iald (t := 0) dD_layStream_41 rfl (fun v41 _ => ?_)
  refine ee_bind (fun _ ho42 => ?_)
  refine ee_callV (as := [.int v41]) (st := []) dD_layStream_42 (t_fD_layFour l0 v41 w32) my_fD_layFour.1 (Nat.le_of_ble_eq_true rfl) my_fD_layFour.2 rfl cf_10.1 rfl (p_obj_eq.mp ho42) gw_1417 gw_1419 gw_20 ⟨Nat.le_of_ble_eq_true rfl, Nat.le_of_ble_eq_true rfl⟩ (Nat.le_of_ble_eq_true rfl) (fun rv42 w42 _ => ?_)
  refine ee_kV ?_
  refine ee_aload_n 0 dD_layStream_45 rfl ?_
  refine ee_aload_n 0 dD_layStream_46 rfl ?_
  refine ee_getR dD_layStream_47 lfD_23 (fun v47 _ => ?_)
  refine ee_iconst (v := (1 : Int32)) dD_layStream_50 (by decide) ?_
  refine ee_iald (t := 0) dD_layStream_51 rfl (fun v51 _ => ?_)
  refine ee_bind (fun _ ho52 => ?_)
  refine ee_callV (as := [.int v51]) (st := []) dD_layStream_52 (t_fD_layFour l0 v51 w42) my_fD_layFour.1 (Nat.le_of_ble_eq_true rfl) my_fD_layFour.2 rfl cf_10.1 rfl (p_obj_eq.mp ho52) gw_1417 gw_1419 gw_20 ⟨Nat.le_of_ble_eq_true rfl, Nat.le_of_ble_eq_true rfl⟩ (Nat.le_of_ble_eq_true rfl) (fun rv52 w52 _ => ?_)
  refine ee_kV ?_
  refine ee_aload_n 0 dD_layStream_55 rfl ?_
  refine ee_iconst (v := (0 : Int32)) dD_layStream_56 (by decide) ?_
  refine ee_bind (fun _ ho57 => ?_)
  refine ee_callV (as := [.int (0 : Int32)]) (st := []) dD_layStream_57 (t_fD_layFour l0 (0 : Int32) w52) my_fD_layFour.1 (Nat.le_of_ble_eq_true rfl) my_fD_layFour.2 rfl cf_10.1 rfl (p_obj_eq.mp ho57) gw_1417 gw_1419 gw_20 ⟨Nat.le_of_ble_eq_true rfl, Nat.le_of_ble_eq_true rfl⟩ (Nat.le_of_ble_eq_true rfl) (fun rv57 w57 _ => ?_)
  refine ee_kV ?_
  refine ee_aload_n 0 dD_layStream_60 rfl ?_
  refine ee_iconst (v := (0 : Int32)) dD_layStream_61 (by decide) ?_
  refine ee_bind (fun _ ho62 => ?_)
  refine ee_callV (as := [.int (0 : Int32)]) (st := []) dD_layStream_62 (t_fD_layFour l0 (0 : Int32) w57) my_fD_layFour.1 (Nat.le_of_ble_eq_true rfl) my_fD_layFour.2 rfl cf_10.1 rfl (p_obj_eq.mp ho62) gw_1417 gw_1419 gw_20 ⟨Nat.le_of_ble_eq_true rfl, Nat.le_of_ble_eq_true rfl⟩ (Nat.le_of_ble_eq_true rfl) (fun rv62 w62 _ => ?_)
  refine ee_kV ?_
  refine ee_aload_n 0 dD_layStream_65 rfl ?_
  refine ee_aload_n 0 dD_layStream_66 rfl ?_
  refine ee_getR dD_layStream_67 lfD_23 (fun v67 _ => ?_)
  refine ee_iconst (v := (3 : Int32)) dD_layStream_70 (by decide) ?_
  refine ee_iald (t := 0) dD_layStream_71 rfl (fun v71 _ => ?_)
  refine ee_bind (fun _ ho72 => ?_)
  refine ee_callV (as := [.int v71]) (st := []) dD_layStream_72 (t_fD_layFour l0 v71 w62) my_fD_layFour.1 (Nat.le_of_ble_eq_true rfl) my_fD_layFour.2 rfl cf_10.1 rfl (p_obj_eq.mp ho72) gw_1417 gw_1419 gw_20 ⟨Nat.le_of_ble_eq_true rfl, Nat.le_of_ble_eq_true rfl⟩ (Nat.le_of_ble_eq_true rfl) (fun rv72 w72 _ => ?_)
  refine ee_kV ?_
  refine ee_aload_n 0 dD_layStream_75 rfl ?_
  refine ee_aload_n 0 dD_layStream_76 rfl ?_
  refine ee_getR dD_layStream_77 lfD_23 (fun v77 _ => ?_)
  refine ee_iconst (v := (4 : Int32)) dD_layStream_80 (by decide) ?_
  refine ee_iald (t := 0) dD_layStream_81 rfl (fun v81 _ => ?_)
  refine ee_bind (fun _ ho82 => ?_)
  refine ee_callV (as := [.int v81]) (st := []) dD_layStream_82 (t_fD_layFour l0 v81 w72) my_fD_layFour.1 (Nat.le_of_ble_eq_true rfl) my_fD_layFour.2 rfl cf_10.1 rfl (p_obj_eq.mp ho82) gw_1417 gw_1419 gw_20 ⟨Nat.le_of_ble_eq_true rfl, Nat.le_of_ble_eq_true rfl⟩ (Nat.le_of_ble_eq_true rfl) (fun rv82 w82 _ => ?_)
  refine ee_kV ?_
  refine ee_aload_n 0 dD_layStream_85 rfl ?_
  refine ee_iconst (v := (0 : Int32)) dD_layStream_86 (by decide) ?_
  refine ee_bind (fun _ ho87 => ?_)
  refine ee_callV (as := [.int (0 : Int32)]) (st := []) dD_layStream_87 (t_fD_layFour l0 (0 : Int32) w82) my_fD_layFour.1 (Nat.le_of_ble_eq_true rfl) my_fD_layFour.2 rfl cf_10.1 rfl (p_obj_eq.mp ho87) gw_1417 gw_1419 gw_20 ⟨Nat.le_of_ble_eq_true rfl, Nat.le_of_ble_eq_true rfl⟩ (Nat.le_of_ble_eq_true rfl) (fun rv87 w87 _ => ?_)
  refine ee_kV ?_
  refine ee_aload_n 0 dD_layStream_90 rfl ?_
  refine ee_iconst (v := (0 : Int32)) dD_layStream_91 (by decide) ?_
  refine ee_bind (fun _ ho92 => ?_)
  refine ee_callV (as := [.int (0 : Int32)]) (st := []) dD_layStream_92 (t_fD_layFour l0 (0 : Int32) w87) my_fD_layFour.1 (Nat.le_of_ble_eq_true rfl) my_fD_layFour.2 rfl cf_10.1 rfl (p_obj_eq.mp ho92) gw_1417 gw_1419 gw_20 ⟨Nat.le_of_ble_eq_true rfl, Nat.le_of_ble_eq_true rfl⟩ (Nat.le_of_ble_eq_true rfl) (fun rv92 w92 _ => ?_)
  refine ee_kV ?_
  refine ee_aload_n 0 dD_layStream_95 rfl ?_
  refine ee_aload_n 0 dD_layStream_96 rfl ?_
  refine ee_getR dD_layStream_97 lfD_23 (fun v97 _ => ?_)
  refine ee_iconst (v := (2 : Int32)) dD_layStream_100 (by decide) ?_
  refine ee_iald (t := 0) dD_layStream_101 rfl (fun v101 _ => ?_)
  refine ee_bind (fun _ ho102 => ?_)
  refine ee_callV (as := [.int v101]) (st := []) dD_layStream_102 (t_fD_layTwo l0 v101 w92) my_fD_layTwo.1 (Nat.le_of_ble_eq_true rfl) my_fD_layTwo.2 rfl cf_10.1 rfl (p_obj_eq.mp ho102) gw_1421 gw_1423 gw_21 ⟨Nat.le_of_ble_eq_true rfl, Nat.le_of_ble_eq_true rfl⟩ (Nat.le_of_ble_eq_true rfl) (fun rv102 w102 _ => ?_)
  refine ee_kV ?_
  refine ee_iconst (v := (0 : Int32)) dD_layStream_105 (by decide) ?_
  refine ee_istore_n (lv2 := [(1, .int (0 : Int32)), (0, .ref l0)]) dD_layStream_106 (Nat.le_of_ble_eq_true rfl) rfl ?_
  refine ee_pick [1, 0] rfl ?_
  exact t_fD_layStream_107 FUEL _ _ w102
def fD_layBox_25 : Nat → Nat → Int32 → Int32 → PW → PX
  | 0, _, _, _, _ => none
  | n9 + 1, l0, l1, l2, w => (p_getR w l0 10 17).bind fun v27 => (p_ald w v27 0 l1).bind fun v31 => if v31 ≤ l2 then (some (.inl none, w)) else ((p_getR w l0 10 18).bind fun v37 => (p_ald w v37 0 (((40 : Int32) * l1) + l2)).bind fun v46 => (p_obj w l0 10).bind fun _ => p_call (fD_lay l0 v46 w) <| p_kV fun w47 => p_let (l2 + (1 : Int32)) fun (l2_50 : Int32) => (fD_layBox_25 n9) l0 l1 l2_50 w47)
set_option maxRecDepth 20000 in
set_option maxHeartbeats 2000000 in
theorem t_fD_layBox_25 {Γ : PG} : ∀ (n9 : Nat) (l0 : Nat) (l1 : Int32) (l2 : Int32) (w : PW), EE Γ MD_layBox 25 [(0, .ref l0), (1, .int l1), (2, .int l2)] [] w (fD_layBox_25 n9 l0 l1 l2 w) := by
  intro n9
  induction n9 with
  | zero => intro l0 l1 l2 w; exact ee_none
  | succ n9 ih =>
    intro l0 l1 l2 w
    unfold fD_layBox_25
    refine ee_iload_n 2 dD_layBox_25 rfl ?_
    refine ee_aload_n 0 dD_layBox_26 rfl ?_
    refine ee_getR dD_layBox_27 lfD_47 (fun v27 _ => ?_)
    refine ee_iload_n 1 dD_layBox_30 rfl ?_
    refine ee_iald (t := 0) dD_layBox_31 rfl (fun v31 _ => ?_)
    refine ee_icmp_ge (tgt := 56) dD_layBox_32 (by decide) (fun h32 => ?_) (fun h32 => ?_)
    · exact ee_vret rfl dD_layBox_56
    · refine ee_aload_n 0 dD_layBox_35 rfl ?_
      refine ee_aload_n 0 dD_layBox_36 rfl ?_
      refine ee_getR dD_layBox_37 lfD_50 (fun v37 _ => ?_)
      refine ee_bipush (v := (40 : Int32)) dD_layBox_40 (by decide) ?_
      refine ee_iload_n 1 dD_layBox_42 rfl ?_
      refine ee_imul dD_layBox_43 ?_
      refine ee_iload_n 2 dD_layBox_44 rfl ?_
      refine ee_iadd dD_layBox_45 ?_
      refine ee_iald (t := 0) dD_layBox_46 rfl (fun v46 _ => ?_)
      refine ee_bind (fun _ ho47 => ?_)
      refine ee_callV (as := [.int v46]) (st := []) dD_layBox_47 (t_fD_lay l0 v46 w) my_fD_lay.1 (Nat.le_of_ble_eq_true rfl) my_fD_lay.2 rfl cf_10.1 rfl (p_obj_eq.mp ho47) gw_1425 gw_1427 gw_22 ⟨Nat.le_of_ble_eq_true rfl, Nat.le_of_ble_eq_true rfl⟩ (Nat.le_of_ble_eq_true rfl) (fun rv47 w47 _ => ?_)
      refine ee_kV ?_
      refine ee_iinc 2 dD_layBox_50 rfl (e := (1 : Int32)) (by decide) (Nat.le_of_ble_eq_true rfl) (fun l2_50 _ => ?_)
      refine ee_lv (lv2 := [(2, .int l2_50), (0, .ref l0), (1, .int l1)]) rfl ?_
      refine ee_goto (tgt := 25) dD_layBox_53 (by decide) ?_
      refine ee_pick [1, 2, 0] rfl ?_
      exact ih _ _ _ w47
def fD_layBox (l0 : Nat) (l1 : Int32) (w : PW) : PX := (p_getR w l0 10 17).bind fun v4 => (p_ald w v4 0 l1).bind fun v8 => (p_obj w l0 10).bind fun _ => p_call (fD_layFour l0 ((8 : Int32) + v8) w) <| p_kV fun w10 => (p_getR w10 l0 10 16).bind fun v15 => (p_ald w10 v15 0 l1).bind fun v19 => (p_obj w10 l0 10).bind fun _ => p_call (fD_layFour l0 v19 w10) <| p_kV fun w20 => fD_layBox_25 FUEL l0 l1 (0 : Int32) w20
set_option maxRecDepth 20000 in
set_option maxHeartbeats 2000000 in
theorem t_fD_layBox {Γ : PG} : ∀ (l0 : Nat) (l1 : Int32) (w : PW), EE Γ MD_layBox 0 (lv_args 0 [.ref l0, .int l1]) [] w (fD_layBox l0 l1 w) := by
  intro l0 l1 w
  unfold fD_layBox
  show EE Γ MD_layBox 0 [(0, .ref l0), (1, .int l1)] [] w _
  refine ee_aload_n 0 dD_layBox_0 rfl ?_
  refine ee_bipush (v := (8 : Int32)) dD_layBox_1 (by decide) ?_
  refine ee_aload_n 0 dD_layBox_3 rfl ?_
  refine ee_getR dD_layBox_4 lfD_47 (fun v4 _ => ?_)
  refine ee_iload_n 1 dD_layBox_7 rfl ?_
  refine ee_iald (t := 0) dD_layBox_8 rfl (fun v8 _ => ?_)
  refine ee_iadd dD_layBox_9 ?_
  refine ee_bind (fun _ ho10 => ?_)
  refine ee_callV (as := [.int ((8 : Int32) + v8)]) (st := []) dD_layBox_10 (t_fD_layFour l0 ((8 : Int32) + v8) w) my_fD_layFour.1 (Nat.le_of_ble_eq_true rfl) my_fD_layFour.2 rfl cf_10.1 rfl (p_obj_eq.mp ho10) gw_1417 gw_1419 gw_20 ⟨Nat.le_of_ble_eq_true rfl, Nat.le_of_ble_eq_true rfl⟩ (Nat.le_of_ble_eq_true rfl) (fun rv10 w10 _ => ?_)
  refine ee_kV ?_
  refine ee_aload_n 0 dD_layBox_13 rfl ?_
  refine ee_aload_n 0 dD_layBox_14 rfl ?_
  refine ee_getR dD_layBox_15 lfD_44 (fun v15 _ => ?_)
  refine ee_iload_n 1 dD_layBox_18 rfl ?_
  refine ee_iald (t := 0) dD_layBox_19 rfl (fun v19 _ => ?_)
  refine ee_bind (fun _ ho20 => ?_)
  refine ee_callV (as := [.int v19]) (st := []) dD_layBox_20 (t_fD_layFour l0 v19 w10) my_fD_layFour.1 (Nat.le_of_ble_eq_true rfl) my_fD_layFour.2 rfl cf_10.1 rfl (p_obj_eq.mp ho20) gw_1417 gw_1419 gw_20 ⟨Nat.le_of_ble_eq_true rfl, Nat.le_of_ble_eq_true rfl⟩ (Nat.le_of_ble_eq_true rfl) (fun rv20 w20 _ => ?_)
  refine ee_kV ?_
  refine ee_iconst (v := (0 : Int32)) dD_layBox_23 (by decide) ?_
  refine ee_istore_n (lv2 := [(2, .int (0 : Int32)), (0, .ref l0), (1, .int l1)]) dD_layBox_24 (Nat.le_of_ble_eq_true rfl) rfl ?_
  refine ee_pick [1, 2, 0] rfl ?_
  exact t_fD_layBox_25 FUEL _ _ _ w20
def fD_layHeads_114 : Nat → Nat → Int32 → Int32 → Int32 → PW → PX
  | 0, _, _, _, _, _ => none
  | n9 + 1, l0, l1, l2, l3, w => (p_getR w l0 10 7).bind fun v116 => (p_ald w v116 0 (2 : Int32)).bind fun v120 => if v120 ≤ l3 then ((p_obj w l0 10).bind fun _ => p_call (fD_layFour l0 l1 w) <| p_kV fun w153 => (p_obj w153 l0 10).bind fun _ => p_call (fD_layFour l0 (1785737832 : Int32) w153) <| p_kV fun w159 => (p_obj w159 l0 10).bind fun _ => p_call (fD_layFour l0 (22 : Int32) w159) <| p_kV fun w165 => (p_obj w165 l0 10).bind fun _ => p_call (fD_layFour l0 (1768449138 : Int32) w165) <| p_kV fun w171 => (p_getR w171 l0 10 7).bind fun v176 => (p_ald w171 v176 0 (1 : Int32)).bind fun v180 => (p_obj w171 l0 10).bind fun _ => p_call (fD_layFour l0 v180 w171) <| p_kV fun w181 => (p_getR w181 l0 10 7).bind fun v186 => (p_ald w181 v186 0 (0 : Int32)).bind fun v190 => (p_obj w181 l0 10).bind fun _ => p_call (fD_layFour l0 v190 w181) <| p_kV fun w191 => (p_getR w191 l0 10 7).bind fun v196 => (p_ald w191 v196 0 (2 : Int32)).bind fun v200 => (p_obj w191 l0 10).bind fun _ => p_call (fD_layTwo l0 v200 w191) <| p_kV fun w201 => (p_obj w201 l0 10).bind fun _ => p_call (fD_lay l0 (l2 - (1 : Int32)) w201) <| p_kV fun w208 => (p_obj w208 l0 10).bind fun _ => p_call (fD_lay l0 (7 : Int32) w208) <| p_kV fun w214 => (p_obj w214 l0 10).bind fun _ => p_call (fD_lay l0 (0 : Int32) w214) <| p_kV fun w219 => (p_obj w219 l0 10).bind fun _ => p_call (fD_lay l0 (0 : Int32) w219) <| p_kV fun w224 => some (.inl none, w224)) else ((p_getR w l0 10 6).bind fun v125 => (p_ald w v125 0 l3).bind fun v129 => if v129 ≤ l2 then (p_let (l3 + (1 : Int32)) fun (l3_145 : Int32) => (fD_layHeads_114 n9) l0 l1 l2 l3_145 w) else ((p_getR w l0 10 6).bind fun v135 => (p_ald w v135 0 l3).bind fun v139 => p_let (l3 + (1 : Int32)) fun (l3_145 : Int32) => (fD_layHeads_114 n9) l0 l1 v139 l3_145 w))
set_option maxRecDepth 20000 in
set_option maxHeartbeats 2000000 in
theorem t_fD_layHeads_114 {Γ : PG} : ∀ (n9 : Nat) (l0 : Nat) (l1 : Int32) (l2 : Int32) (l3 : Int32) (w : PW), EE Γ MD_layHeads 114 [(0, .ref l0), (1, .int l1), (2, .int l2), (3, .int l3)] [] w (fD_layHeads_114 n9 l0 l1 l2 l3 w) := by
  intro n9
  induction n9 with
  | zero => intro l0 l1 l2 l3 w; exact ee_none
  | succ n9 ih =>
    intro l0 l1 l2 l3 w
    unfold fD_layHeads_114
    refine ee_iload_n 3 dD_layHeads_114 rfl ?_
    refine ee_aload_n 0 dD_layHeads_115 rfl ?_
    refine ee_getR dD_layHeads_116 lfD_23 (fun v116 _ => ?_)
    refine ee_iconst (v := (2 : Int32)) dD_layHeads_119 (by decide) ?_
    refine ee_iald (t := 0) dD_layHeads_120 rfl (fun v120 _ => ?_)
    refine ee_icmp_ge (tgt := 151) dD_layHeads_121 (by decide) (fun h121 => ?_) (fun h121 => ?_)
    · refine ee_aload_n 0 dD_layHeads_151 rfl ?_
      refine ee_iload_n 1 dD_layHeads_152 rfl ?_
      refine ee_bind (fun _ ho153 => ?_)
      refine ee_callV (as := [.int l1]) (st := []) dD_layHeads_153 (t_fD_layFour l0 l1 w) my_fD_layFour.1 (Nat.le_of_ble_eq_true rfl) my_fD_layFour.2 rfl cf_10.1 rfl (p_obj_eq.mp ho153) gw_1417 gw_1419 gw_20 ⟨Nat.le_of_ble_eq_true rfl, Nat.le_of_ble_eq_true rfl⟩ (Nat.le_of_ble_eq_true rfl) (fun rv153 w153 _ => ?_)
      refine ee_kV ?_
      refine ee_aload_n 0 dD_layHeads_156 rfl ?_
      refine ee_ldc (v := (1785737832 : Int32)) dD_layHeads_157 gw_1402 ?_
      refine ee_bind (fun _ ho159 => ?_)
      refine ee_callV (as := [.int (1785737832 : Int32)]) (st := []) dD_layHeads_159 (t_fD_layFour l0 (1785737832 : Int32) w153) my_fD_layFour.1 (Nat.le_of_ble_eq_true rfl) my_fD_layFour.2 rfl cf_10.1 rfl (p_obj_eq.mp ho159) gw_1417 gw_1419 gw_20 ⟨Nat.le_of_ble_eq_true rfl, Nat.le_of_ble_eq_true rfl⟩ (Nat.le_of_ble_eq_true rfl) (fun rv159 w159 _ => ?_)
      refine ee_kV ?_
      refine ee_aload_n 0 dD_layHeads_162 rfl ?_
      refine ee_bipush (v := (22 : Int32)) dD_layHeads_163 (by decide) ?_
      refine ee_bind (fun _ ho165 => ?_)
      refine ee_callV (as := [.int (22 : Int32)]) (st := []) dD_layHeads_165 (t_fD_layFour l0 (22 : Int32) w159) my_fD_layFour.1 (Nat.le_of_ble_eq_true rfl) my_fD_layFour.2 rfl cf_10.1 rfl (p_obj_eq.mp ho165) gw_1417 gw_1419 gw_20 ⟨Nat.le_of_ble_eq_true rfl, Nat.le_of_ble_eq_true rfl⟩ (Nat.le_of_ble_eq_true rfl) (fun rv165 w165 _ => ?_)
      refine ee_kV ?_
      refine ee_aload_n 0 dD_layHeads_168 rfl ?_
      refine ee_ldc (v := (1768449138 : Int32)) dD_layHeads_169 gw_1403 ?_
      refine ee_bind (fun _ ho171 => ?_)
      refine ee_callV (as := [.int (1768449138 : Int32)]) (st := []) dD_layHeads_171 (t_fD_layFour l0 (1768449138 : Int32) w165) my_fD_layFour.1 (Nat.le_of_ble_eq_true rfl) my_fD_layFour.2 rfl cf_10.1 rfl (p_obj_eq.mp ho171) gw_1417 gw_1419 gw_20 ⟨Nat.le_of_ble_eq_true rfl, Nat.le_of_ble_eq_true rfl⟩ (Nat.le_of_ble_eq_true rfl) (fun rv171 w171 _ => ?_)
      refine ee_kV ?_
      refine ee_aload_n 0 dD_layHeads_174 rfl ?_
      refine ee_aload_n 0 dD_layHeads_175 rfl ?_
      refine ee_getR dD_layHeads_176 lfD_23 (fun v176 _ => ?_)
      refine ee_iconst (v := (1 : Int32)) dD_layHeads_179 (by decide) ?_
      refine ee_iald (t := 0) dD_layHeads_180 rfl (fun v180 _ => ?_)
      refine ee_bind (fun _ ho181 => ?_)
      refine ee_callV (as := [.int v180]) (st := []) dD_layHeads_181 (t_fD_layFour l0 v180 w171) my_fD_layFour.1 (Nat.le_of_ble_eq_true rfl) my_fD_layFour.2 rfl cf_10.1 rfl (p_obj_eq.mp ho181) gw_1417 gw_1419 gw_20 ⟨Nat.le_of_ble_eq_true rfl, Nat.le_of_ble_eq_true rfl⟩ (Nat.le_of_ble_eq_true rfl) (fun rv181 w181 _ => ?_)
      refine ee_kV ?_
      refine ee_aload_n 0 dD_layHeads_184 rfl ?_
      refine ee_aload_n 0 dD_layHeads_185 rfl ?_
      refine ee_getR dD_layHeads_186 lfD_23 (fun v186 _ => ?_)
      refine ee_iconst (v := (0 : Int32)) dD_layHeads_189 (by decide) ?_
      refine ee_iald (t := 0) dD_layHeads_190 rfl (fun v190 _ => ?_)
      refine ee_bind (fun _ ho191 => ?_)
      refine ee_callV (as := [.int v190]) (st := []) dD_layHeads_191 (t_fD_layFour l0 v190 w181) my_fD_layFour.1 (Nat.le_of_ble_eq_true rfl) my_fD_layFour.2 rfl cf_10.1 rfl (p_obj_eq.mp ho191) gw_1417 gw_1419 gw_20 ⟨Nat.le_of_ble_eq_true rfl, Nat.le_of_ble_eq_true rfl⟩ (Nat.le_of_ble_eq_true rfl) (fun rv191 w191 _ => ?_)
      refine ee_kV ?_
      refine ee_aload_n 0 dD_layHeads_194 rfl ?_
      refine ee_aload_n 0 dD_layHeads_195 rfl ?_
      refine ee_getR dD_layHeads_196 lfD_23 (fun v196 _ => ?_)
      refine ee_iconst (v := (2 : Int32)) dD_layHeads_199 (by decide) ?_
      refine ee_iald (t := 0) dD_layHeads_200 rfl (fun v200 _ => ?_)
      refine ee_bind (fun _ ho201 => ?_)
      refine ee_callV (as := [.int v200]) (st := []) dD_layHeads_201 (t_fD_layTwo l0 v200 w191) my_fD_layTwo.1 (Nat.le_of_ble_eq_true rfl) my_fD_layTwo.2 rfl cf_10.1 rfl (p_obj_eq.mp ho201) gw_1421 gw_1423 gw_21 ⟨Nat.le_of_ble_eq_true rfl, Nat.le_of_ble_eq_true rfl⟩ (Nat.le_of_ble_eq_true rfl) (fun rv201 w201 _ => ?_)
      refine ee_kV ?_
      refine ee_aload_n 0 dD_layHeads_204 rfl ?_
      refine ee_iload_n 2 dD_layHeads_205 rfl ?_
      refine ee_iconst (v := (1 : Int32)) dD_layHeads_206 (by decide) ?_
      refine ee_isub dD_layHeads_207 ?_
      refine ee_bind (fun _ ho208 => ?_)
      refine ee_callV (as := [.int (l2 - (1 : Int32))]) (st := []) dD_layHeads_208 (t_fD_lay l0 (l2 - (1 : Int32)) w201) my_fD_lay.1 (Nat.le_of_ble_eq_true rfl) my_fD_lay.2 rfl cf_10.1 rfl (p_obj_eq.mp ho208) gw_1425 gw_1427 gw_22 ⟨Nat.le_of_ble_eq_true rfl, Nat.le_of_ble_eq_true rfl⟩ (Nat.le_of_ble_eq_true rfl) (fun rv208 w208 _ => ?_)
      refine ee_kV ?_
      refine ee_aload_n 0 dD_layHeads_211 rfl ?_
      refine ee_bipush (v := (7 : Int32)) dD_layHeads_212 (by decide) ?_
      refine ee_bind (fun _ ho214 => ?_)
      refine ee_callV (as := [.int (7 : Int32)]) (st := []) dD_layHeads_214 (t_fD_lay l0 (7 : Int32) w208) my_fD_lay.1 (Nat.le_of_ble_eq_true rfl) my_fD_lay.2 rfl cf_10.1 rfl (p_obj_eq.mp ho214) gw_1425 gw_1427 gw_22 ⟨Nat.le_of_ble_eq_true rfl, Nat.le_of_ble_eq_true rfl⟩ (Nat.le_of_ble_eq_true rfl) (fun rv214 w214 _ => ?_)
      refine ee_kV ?_
      refine ee_aload_n 0 dD_layHeads_217 rfl ?_
      refine ee_iconst (v := (0 : Int32)) dD_layHeads_218 (by decide) ?_
      refine ee_bind (fun _ ho219 => ?_)
      refine ee_callV (as := [.int (0 : Int32)]) (st := []) dD_layHeads_219 (t_fD_lay l0 (0 : Int32) w214) my_fD_lay.1 (Nat.le_of_ble_eq_true rfl) my_fD_lay.2 rfl cf_10.1 rfl (p_obj_eq.mp ho219) gw_1425 gw_1427 gw_22 ⟨Nat.le_of_ble_eq_true rfl, Nat.le_of_ble_eq_true rfl⟩ (Nat.le_of_ble_eq_true rfl) (fun rv219 w219 _ => ?_)
      refine ee_kV ?_
      refine ee_aload_n 0 dD_layHeads_222 rfl ?_
      refine ee_iconst (v := (0 : Int32)) dD_layHeads_223 (by decide) ?_
      refine ee_bind (fun _ ho224 => ?_)
      refine ee_callV (as := [.int (0 : Int32)]) (st := []) dD_layHeads_224 (t_fD_lay l0 (0 : Int32) w219) my_fD_lay.1 (Nat.le_of_ble_eq_true rfl) my_fD_lay.2 rfl cf_10.1 rfl (p_obj_eq.mp ho224) gw_1425 gw_1427 gw_22 ⟨Nat.le_of_ble_eq_true rfl, Nat.le_of_ble_eq_true rfl⟩ (Nat.le_of_ble_eq_true rfl) (fun rv224 w224 _ => ?_)
      refine ee_kV ?_
      exact ee_vret rfl dD_layHeads_227
    · refine ee_aload_n 0 dD_layHeads_124 rfl ?_
      refine ee_getR dD_layHeads_125 lfD_20 (fun v125 _ => ?_)
      refine ee_iload_n 3 dD_layHeads_128 rfl ?_
      refine ee_iald (t := 0) dD_layHeads_129 rfl (fun v129 _ => ?_)
      refine ee_iload_n 2 dD_layHeads_130 rfl ?_
      refine ee_icmp_le (tgt := 143) dD_layHeads_131 (by decide) (fun h131 => ?_) (fun h131 => ?_)
      · refine ee_iload_n 2 dD_layHeads_143 rfl ?_
        refine ee_istore_n (lv2 := [(2, .int l2), (0, .ref l0), (1, .int l1), (3, .int l3)]) dD_layHeads_144 (Nat.le_of_ble_eq_true rfl) rfl ?_
        refine ee_iinc 3 dD_layHeads_145 rfl (e := (1 : Int32)) (by decide) (Nat.le_of_ble_eq_true rfl) (fun l3_145 _ => ?_)
        refine ee_lv (lv2 := [(3, .int l3_145), (2, .int l2), (0, .ref l0), (1, .int l1)]) rfl ?_
        refine ee_goto (tgt := 114) dD_layHeads_148 (by decide) ?_
        refine ee_pick [2, 3, 1, 0] rfl ?_
        exact ih _ _ _ _ w
      · refine ee_aload_n 0 dD_layHeads_134 rfl ?_
        refine ee_getR dD_layHeads_135 lfD_20 (fun v135 _ => ?_)
        refine ee_iload_n 3 dD_layHeads_138 rfl ?_
        refine ee_iald (t := 0) dD_layHeads_139 rfl (fun v139 _ => ?_)
        refine ee_goto (tgt := 144) dD_layHeads_140 (by decide) ?_
        refine ee_istore_n (lv2 := [(2, .int v139), (0, .ref l0), (1, .int l1), (3, .int l3)]) dD_layHeads_144 (Nat.le_of_ble_eq_true rfl) rfl ?_
        refine ee_iinc 3 dD_layHeads_145 rfl (e := (1 : Int32)) (by decide) (Nat.le_of_ble_eq_true rfl) (fun l3_145 _ => ?_)
        refine ee_lv (lv2 := [(3, .int l3_145), (2, .int v139), (0, .ref l0), (1, .int l1)]) rfl ?_
        refine ee_goto (tgt := 114) dD_layHeads_148 (by decide) ?_
        refine ee_pick [2, 3, 1, 0] rfl ?_
        exact ih _ _ _ _ w
def fD_layHeads_104 (k_73 : Nat → Int32 → Int32 → Int32 → PW → PX) (l0 : Nat) (l2 : Int32) (l3 : Int32) (s0 : Int32) (s1 : Int32) (w : PW) : PX := p_let ((s1 + s0)) fun (l1_105 : Int32) => p_let (l3 + (1 : Int32)) fun (l3_106 : Int32) => k_73 l0 l1_105 l2 l3_106 w
set_option maxRecDepth 20000 in
set_option maxHeartbeats 2000000 in
theorem t_fD_layHeads_104 {Γ : PG} {k_73 : Nat → Int32 → Int32 → Int32 → PW → PX} (hk_73 : ∀ (l0 : Nat) (l1 : Int32) (l2 : Int32) (l3 : Int32) (w : PW), EE Γ MD_layHeads 73 [(0, .ref l0), (1, .int l1), (2, .int l2), (3, .int l3)] [] w (k_73 l0 l1 l2 l3 w)) : ∀ (l0 : Nat) (l2 : Int32) (l3 : Int32) (s0 : Int32) (s1 : Int32) (w : PW), EE Γ MD_layHeads 104 [(0, .ref l0), (2, .int l2), (3, .int l3)] [.int s0, .int s1] w (fD_layHeads_104 k_73 l0 l2 l3 s0 s1 w) := by
  intro l0 l2 l3 s0 s1 w
  unfold fD_layHeads_104
  refine ee_iadd dD_layHeads_104 ?_
  refine ee_letI (fun l1_105 _ => ?_)
  refine ee_istore_n (lv2 := [(1, .int l1_105), (0, .ref l0), (2, .int l2), (3, .int l3)]) dD_layHeads_105 (Nat.le_of_ble_eq_true rfl) rfl ?_
  refine ee_iinc 3 dD_layHeads_106 rfl (e := (1 : Int32)) (by decide) (Nat.le_of_ble_eq_true rfl) (fun l3_106 _ => ?_)
  refine ee_lv (lv2 := [(3, .int l3_106), (1, .int l1_105), (0, .ref l0), (2, .int l2)]) rfl ?_
  refine ee_goto (tgt := 73) dD_layHeads_109 (by decide) ?_
  refine ee_pick [2, 1, 3, 0] rfl ?_
  exact hk_73 _ _ _ _ w
def fD_layHeads_73 : Nat → Nat → Int32 → Int32 → Int32 → PW → PX
  | 0, _, _, _, _, _ => none
  | n9 + 1, l0, l1, l2, l3, w => (p_getI w l0 10 14).bind fun v75 => if v75 ≤ l3 then (fD_layHeads_114 FUEL l0 l1 l2 (0 : Int32) w) else ((p_getR w l0 10 15).bind fun v83 => (p_ald w v83 2 l3).bind fun v87 => if v87 = 0 then (fD_layHeads_104 (fD_layHeads_73 n9) l0 l2 l3 (0 : Int32) l1 w) else ((p_getR w l0 10 17).bind fun v94 => (p_ald w v94 0 l3).bind fun v98 => fD_layHeads_104 (fD_layHeads_73 n9) l0 l2 l3 ((8 : Int32) + v98) l1 w))
set_option maxRecDepth 20000 in
set_option maxHeartbeats 2000000 in
theorem t_fD_layHeads_73 {Γ : PG} : ∀ (n9 : Nat) (l0 : Nat) (l1 : Int32) (l2 : Int32) (l3 : Int32) (w : PW), EE Γ MD_layHeads 73 [(0, .ref l0), (1, .int l1), (2, .int l2), (3, .int l3)] [] w (fD_layHeads_73 n9 l0 l1 l2 l3 w) := by
  intro n9
  induction n9 with
  | zero => intro l0 l1 l2 l3 w; exact ee_none
  | succ n9 ih =>
    intro l0 l1 l2 l3 w
    unfold fD_layHeads_73
    refine ee_iload_n 3 dD_layHeads_73 rfl ?_
    refine ee_aload_n 0 dD_layHeads_74 rfl ?_
    refine ee_getI dD_layHeads_75 lfD_209 (fun v75 _ => ?_)
    refine ee_icmp_ge (tgt := 112) dD_layHeads_78 (by decide) (fun h78 => ?_) (fun h78 => ?_)
    · refine ee_iconst (v := (0 : Int32)) dD_layHeads_112 (by decide) ?_
      refine ee_istore_n (lv2 := [(3, .int (0 : Int32)), (0, .ref l0), (1, .int l1), (2, .int l2)]) dD_layHeads_113 (Nat.le_of_ble_eq_true rfl) rfl ?_
      refine ee_pick [1, 2, 3, 0] rfl ?_
      exact t_fD_layHeads_114 FUEL _ _ _ _ w
    · refine ee_iload_n 1 dD_layHeads_81 rfl ?_
      refine ee_aload_n 0 dD_layHeads_82 rfl ?_
      refine ee_getR dD_layHeads_83 lfD_41 (fun v83 _ => ?_)
      refine ee_iload_n 3 dD_layHeads_86 rfl ?_
      refine ee_zald (t := 2) dD_layHeads_87 rfl (fun v87 _ => ?_)
      refine ee_if_eq (tgt := 103) dD_layHeads_88 (by decide) (fun h88 => ?_) (fun h88 => ?_)
      · refine ee_iconst (v := (0 : Int32)) dD_layHeads_103 (by decide) ?_
        refine ee_pick [0, 2, 3] rfl ?_
        exact t_fD_layHeads_104 ih _ _ _ _ _ w
      · refine ee_bipush (v := (8 : Int32)) dD_layHeads_91 (by decide) ?_
        refine ee_aload_n 0 dD_layHeads_93 rfl ?_
        refine ee_getR dD_layHeads_94 lfD_47 (fun v94 _ => ?_)
        refine ee_iload_n 3 dD_layHeads_97 rfl ?_
        refine ee_iald (t := 0) dD_layHeads_98 rfl (fun v98 _ => ?_)
        refine ee_iadd dD_layHeads_99 ?_
        refine ee_goto (tgt := 104) dD_layHeads_100 (by decide) ?_
        refine ee_pick [0, 2, 3] rfl ?_
        exact t_fD_layHeads_104 ih _ _ _ _ _ w
def fD_layHeads (l0 : Nat) (w : PW) : PX := (p_obj w l0 10).bind fun _ => p_call (fD_layFour l0 (12 : Int32) w) <| p_kV fun w3 => (p_obj w3 l0 10).bind fun _ => p_call (fD_layFour l0 (1783636000 : Int32) w3) <| p_kV fun w9 => (p_obj w9 l0 10).bind fun _ => p_call (fD_lay l0 (13 : Int32) w9) <| p_kV fun w15 => (p_obj w15 l0 10).bind fun _ => p_call (fD_lay l0 (10 : Int32) w15) <| p_kV fun w21 => (p_obj w21 l0 10).bind fun _ => p_call (fD_lay l0 (135 : Int32) w21) <| p_kV fun w28 => (p_obj w28 l0 10).bind fun _ => p_call (fD_lay l0 (10 : Int32) w28) <| p_kV fun w34 => (p_obj w34 l0 10).bind fun _ => p_call (fD_layFour l0 (20 : Int32) w34) <| p_kV fun w40 => (p_obj w40 l0 10).bind fun _ => p_call (fD_layFour l0 (1718909296 : Int32) w40) <| p_kV fun w46 => (p_obj w46 l0 10).bind fun _ => p_call (fD_layFour l0 (1785737760 : Int32) w46) <| p_kV fun w52 => (p_obj w52 l0 10).bind fun _ => p_call (fD_layFour l0 (0 : Int32) w52) <| p_kV fun w57 => (p_obj w57 l0 10).bind fun _ => p_call (fD_layFour l0 (1785737760 : Int32) w57) <| p_kV fun w63 => fD_layHeads_73 FUEL l0 (30 : Int32) (0 : Int32) (0 : Int32) w63
set_option maxRecDepth 20000 in
set_option maxHeartbeats 2000000 in
theorem t_fD_layHeads {Γ : PG} : ∀ (l0 : Nat) (w : PW), EE Γ MD_layHeads 0 (lv_args 0 [.ref l0]) [] w (fD_layHeads l0 w) := by
  intro l0 w
  unfold fD_layHeads
  show EE Γ MD_layHeads 0 [(0, .ref l0)] [] w _
  refine ee_aload_n 0 dD_layHeads_0 rfl ?_
  refine ee_bipush (v := (12 : Int32)) dD_layHeads_1 (by decide) ?_
  refine ee_bind (fun _ ho3 => ?_)
  refine ee_callV (as := [.int (12 : Int32)]) (st := []) dD_layHeads_3 (t_fD_layFour l0 (12 : Int32) w) my_fD_layFour.1 (Nat.le_of_ble_eq_true rfl) my_fD_layFour.2 rfl cf_10.1 rfl (p_obj_eq.mp ho3) gw_1417 gw_1419 gw_20 ⟨Nat.le_of_ble_eq_true rfl, Nat.le_of_ble_eq_true rfl⟩ (Nat.le_of_ble_eq_true rfl) (fun rv3 w3 _ => ?_)
  refine ee_kV ?_
  refine ee_aload_n 0 dD_layHeads_6 rfl ?_
  refine ee_ldc (v := (1783636000 : Int32)) dD_layHeads_7 gw_1400 ?_
  refine ee_bind (fun _ ho9 => ?_)
  refine ee_callV (as := [.int (1783636000 : Int32)]) (st := []) dD_layHeads_9 (t_fD_layFour l0 (1783636000 : Int32) w3) my_fD_layFour.1 (Nat.le_of_ble_eq_true rfl) my_fD_layFour.2 rfl cf_10.1 rfl (p_obj_eq.mp ho9) gw_1417 gw_1419 gw_20 ⟨Nat.le_of_ble_eq_true rfl, Nat.le_of_ble_eq_true rfl⟩ (Nat.le_of_ble_eq_true rfl) (fun rv9 w9 _ => ?_)
  refine ee_kV ?_
  refine ee_aload_n 0 dD_layHeads_12 rfl ?_
  refine ee_bipush (v := (13 : Int32)) dD_layHeads_13 (by decide) ?_
  refine ee_bind (fun _ ho15 => ?_)
  refine ee_callV (as := [.int (13 : Int32)]) (st := []) dD_layHeads_15 (t_fD_lay l0 (13 : Int32) w9) my_fD_lay.1 (Nat.le_of_ble_eq_true rfl) my_fD_lay.2 rfl cf_10.1 rfl (p_obj_eq.mp ho15) gw_1425 gw_1427 gw_22 ⟨Nat.le_of_ble_eq_true rfl, Nat.le_of_ble_eq_true rfl⟩ (Nat.le_of_ble_eq_true rfl) (fun rv15 w15 _ => ?_)
  refine ee_kV ?_
  refine ee_aload_n 0 dD_layHeads_18 rfl ?_
  refine ee_bipush (v := (10 : Int32)) dD_layHeads_19 (by decide) ?_
  refine ee_bind (fun _ ho21 => ?_)
  refine ee_callV (as := [.int (10 : Int32)]) (st := []) dD_layHeads_21 (t_fD_lay l0 (10 : Int32) w15) my_fD_lay.1 (Nat.le_of_ble_eq_true rfl) my_fD_lay.2 rfl cf_10.1 rfl (p_obj_eq.mp ho21) gw_1425 gw_1427 gw_22 ⟨Nat.le_of_ble_eq_true rfl, Nat.le_of_ble_eq_true rfl⟩ (Nat.le_of_ble_eq_true rfl) (fun rv21 w21 _ => ?_)
  refine ee_kV ?_
  refine ee_aload_n 0 dD_layHeads_24 rfl ?_
  refine ee_sipush (v := (135 : Int32)) dD_layHeads_25 (by decide) ?_
  refine ee_bind (fun _ ho28 => ?_)
  refine ee_callV (as := [.int (135 : Int32)]) (st := []) dD_layHeads_28 (t_fD_lay l0 (135 : Int32) w21) my_fD_lay.1 (Nat.le_of_ble_eq_true rfl) my_fD_lay.2 rfl cf_10.1 rfl (p_obj_eq.mp ho28) gw_1425 gw_1427 gw_22 ⟨Nat.le_of_ble_eq_true rfl, Nat.le_of_ble_eq_true rfl⟩ (Nat.le_of_ble_eq_true rfl) (fun rv28 w28 _ => ?_)
  refine ee_kV ?_
  refine ee_aload_n 0 dD_layHeads_31 rfl ?_
  refine ee_bipush (v := (10 : Int32)) dD_layHeads_32 (by decide) ?_
  refine ee_bind (fun _ ho34 => ?_)
  refine ee_callV (as := [.int (10 : Int32)]) (st := []) dD_layHeads_34 (t_fD_lay l0 (10 : Int32) w28) my_fD_lay.1 (Nat.le_of_ble_eq_true rfl) my_fD_lay.2 rfl cf_10.1 rfl (p_obj_eq.mp ho34) gw_1425 gw_1427 gw_22 ⟨Nat.le_of_ble_eq_true rfl, Nat.le_of_ble_eq_true rfl⟩ (Nat.le_of_ble_eq_true rfl) (fun rv34 w34 _ => ?_)
  refine ee_kV ?_
  refine ee_aload_n 0 dD_layHeads_37 rfl ?_
  refine ee_bipush (v := (20 : Int32)) dD_layHeads_38 (by decide) ?_
  refine ee_bind (fun _ ho40 => ?_)
  refine ee_callV (as := [.int (20 : Int32)]) (st := []) dD_layHeads_40 (t_fD_layFour l0 (20 : Int32) w34) my_fD_layFour.1 (Nat.le_of_ble_eq_true rfl) my_fD_layFour.2 rfl cf_10.1 rfl (p_obj_eq.mp ho40) gw_1417 gw_1419 gw_20 ⟨Nat.le_of_ble_eq_true rfl, Nat.le_of_ble_eq_true rfl⟩ (Nat.le_of_ble_eq_true rfl) (fun rv40 w40 _ => ?_)
  refine ee_kV ?_
  refine ee_aload_n 0 dD_layHeads_43 rfl ?_
  refine ee_ldc (v := (1718909296 : Int32)) dD_layHeads_44 gw_1401 ?_
  refine ee_bind (fun _ ho46 => ?_)
  refine ee_callV (as := [.int (1718909296 : Int32)]) (st := []) dD_layHeads_46 (t_fD_layFour l0 (1718909296 : Int32) w40) my_fD_layFour.1 (Nat.le_of_ble_eq_true rfl) my_fD_layFour.2 rfl cf_10.1 rfl (p_obj_eq.mp ho46) gw_1417 gw_1419 gw_20 ⟨Nat.le_of_ble_eq_true rfl, Nat.le_of_ble_eq_true rfl⟩ (Nat.le_of_ble_eq_true rfl) (fun rv46 w46 _ => ?_)
  refine ee_kV ?_
  refine ee_aload_n 0 dD_layHeads_49 rfl ?_
  refine ee_ldc (v := (1785737760 : Int32)) dD_layHeads_50 gw_1430 ?_
  refine ee_bind (fun _ ho52 => ?_)
  refine ee_callV (as := [.int (1785737760 : Int32)]) (st := []) dD_layHeads_52 (t_fD_layFour l0 (1785737760 : Int32) w46) my_fD_layFour.1 (Nat.le_of_ble_eq_true rfl) my_fD_layFour.2 rfl cf_10.1 rfl (p_obj_eq.mp ho52) gw_1417 gw_1419 gw_20 ⟨Nat.le_of_ble_eq_true rfl, Nat.le_of_ble_eq_true rfl⟩ (Nat.le_of_ble_eq_true rfl) (fun rv52 w52 _ => ?_)
  refine ee_kV ?_
  refine ee_aload_n 0 dD_layHeads_55 rfl ?_
  refine ee_iconst (v := (0 : Int32)) dD_layHeads_56 (by decide) ?_
  refine ee_bind (fun _ ho57 => ?_)
  refine ee_callV (as := [.int (0 : Int32)]) (st := []) dD_layHeads_57 (t_fD_layFour l0 (0 : Int32) w52) my_fD_layFour.1 (Nat.le_of_ble_eq_true rfl) my_fD_layFour.2 rfl cf_10.1 rfl (p_obj_eq.mp ho57) gw_1417 gw_1419 gw_20 ⟨Nat.le_of_ble_eq_true rfl, Nat.le_of_ble_eq_true rfl⟩ (Nat.le_of_ble_eq_true rfl) (fun rv57 w57 _ => ?_)
  refine ee_kV ?_
  refine ee_aload_n 0 dD_layHeads_60 rfl ?_
  refine ee_ldc (v := (1785737760 : Int32)) dD_layHeads_61 gw_1430 ?_
  refine ee_bind (fun _ ho63 => ?_)
  refine ee_callV (as := [.int (1785737760 : Int32)]) (st := []) dD_layHeads_63 (t_fD_layFour l0 (1785737760 : Int32) w57) my_fD_layFour.1 (Nat.le_of_ble_eq_true rfl) my_fD_layFour.2 rfl cf_10.1 rfl (p_obj_eq.mp ho63) gw_1417 gw_1419 gw_20 ⟨Nat.le_of_ble_eq_true rfl, Nat.le_of_ble_eq_true rfl⟩ (Nat.le_of_ble_eq_true rfl) (fun rv63 w63 _ => ?_)
  refine ee_kV ?_
  refine ee_bipush (v := (30 : Int32)) dD_layHeads_66 (by decide) ?_
  refine ee_istore_n (lv2 := [(1, .int (30 : Int32)), (0, .ref l0)]) dD_layHeads_68 (Nat.le_of_ble_eq_true rfl) rfl ?_
  refine ee_iconst (v := (0 : Int32)) dD_layHeads_69 (by decide) ?_
  refine ee_istore_n (lv2 := [(2, .int (0 : Int32)), (1, .int (30 : Int32)), (0, .ref l0)]) dD_layHeads_70 (Nat.le_of_ble_eq_true rfl) rfl ?_
  refine ee_iconst (v := (0 : Int32)) dD_layHeads_71 (by decide) ?_
  refine ee_istore_n (lv2 := [(3, .int (0 : Int32)), (2, .int (0 : Int32)), (1, .int (30 : Int32)), (0, .ref l0)]) dD_layHeads_72 (Nat.le_of_ble_eq_true rfl) rfl ?_
  refine ee_pick [3, 2, 1, 0] rfl ?_
  exact t_fD_layHeads_73 FUEL _ _ _ _ w63
