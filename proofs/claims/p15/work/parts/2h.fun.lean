def fPartReader_weigh_80 (l0 : Nat) (l1 : Int32) (l2 : Int32) (l5 : Int32) (l6 : Int32) (w : PW) : PX := (p_getR w l0 6 5).bind fun v81 => (p_ast w v81 0 l1 l2).bind fun w86 => (p_getR w86 l0 6 6).bind fun v88 => (p_ast w86 v88 0 l1 l6).bind fun w94 => (p_getR w94 l0 6 7).bind fun v96 => (p_ast w94 v96 0 l1 l5).bind fun w102 => p_retZ (1 : Int32) w102
set_option maxRecDepth 20000 in
set_option maxHeartbeats 2000000 in
theorem t_fPartReader_weigh_80 {Γ : PG} : ∀ (l0 : Nat) (l1 : Int32) (l2 : Int32) (l5 : Int32) (l6 : Int32) (w : PW), EE Γ MPartReader_weigh 80 [(0, .ref l0), (1, .int l1), (2, .int l2), (5, .int l5), (6, .int l6)] [] w (fPartReader_weigh_80 l0 l1 l2 l5 l6 w) := by
  intro l0 l1 l2 l5 l6 w
  unfold fPartReader_weigh_80
  refine ee_aload_n 0 dPartReader_weigh_80 rfl ?_
  refine ee_getR dPartReader_weigh_81 lfPartReader_18 (fun v81 _ => ?_)
  refine ee_iload_n 1 dPartReader_weigh_84 rfl ?_
  refine ee_iload_n 2 dPartReader_weigh_85 rfl ?_
  refine ee_iast (t := 0) dPartReader_weigh_86 rfl (fun w86 _ => ?_)
  refine ee_aload_n 0 dPartReader_weigh_87 rfl ?_
  refine ee_getR dPartReader_weigh_88 lfPartReader_21 (fun v88 _ => ?_)
  refine ee_iload_n 1 dPartReader_weigh_91 rfl ?_
  refine ee_iload 4 dPartReader_weigh_92 rfl ?_
  refine ee_iast (t := 0) dPartReader_weigh_94 rfl (fun w94 _ => ?_)
  refine ee_aload_n 0 dPartReader_weigh_95 rfl ?_
  refine ee_getR dPartReader_weigh_96 lfPartReader_24 (fun v96 _ => ?_)
  refine ee_iload_n 1 dPartReader_weigh_99 rfl ?_
  refine ee_iload 3 dPartReader_weigh_100 rfl ?_
  refine ee_iast (t := 0) dPartReader_weigh_102 rfl (fun w102 _ => ?_)
  refine ee_iconst (v := (1 : Int32)) dPartReader_weigh_103 (by decide) ?_
  exact ee_zret rfl dPartReader_weigh_104
def fPartReader_weigh_53 (l0 : Nat) (l1 : Int32) (l2 : Int32) (l4 : Int32) (l5 : Int32) (l6 : Int32) (w : PW) : PX := (p_getR w l0 6 8).bind fun v54 => (p_ald w v54 2 l1).bind fun v58 => if ¬ v58 = 0 then (fPartReader_weigh_80 l0 l1 l2 l5 l6 w) else ((p_getI w l0 6 11).bind fun v65 => if l5 < v65 then (p_retZ (0 : Int32) w) else (if l4 ≤ l6 then (fPartReader_weigh_80 l0 l1 l2 l5 l6 w) else (p_retZ (0 : Int32) w)))
set_option maxRecDepth 20000 in
set_option maxHeartbeats 2000000 in
theorem t_fPartReader_weigh_53 {Γ : PG} : ∀ (l0 : Nat) (l1 : Int32) (l2 : Int32) (l4 : Int32) (l5 : Int32) (l6 : Int32) (w : PW), EE Γ MPartReader_weigh 53 [(0, .ref l0), (1, .int l1), (2, .int l2), (4, .int l4), (5, .int l5), (6, .int l6)] [] w (fPartReader_weigh_53 l0 l1 l2 l4 l5 l6 w) := by
  intro l0 l1 l2 l4 l5 l6 w
  unfold fPartReader_weigh_53
  refine ee_aload_n 0 dPartReader_weigh_53 rfl ?_
  refine ee_getR dPartReader_weigh_54 lfPartReader_27 (fun v54 _ => ?_)
  refine ee_iload_n 1 dPartReader_weigh_57 rfl ?_
  refine ee_zald (t := 2) dPartReader_weigh_58 rfl (fun v58 _ => ?_)
  refine ee_if_ne (tgt := 80) dPartReader_weigh_59 (by decide) (fun h59 => ?_) (fun h59 => ?_)
  · refine ee_pick [0, 1, 2, 4, 5] rfl ?_
    exact t_fPartReader_weigh_80 _ _ _ _ _ w
  · refine ee_iload 4 dPartReader_weigh_62 rfl ?_
    refine ee_aload_n 0 dPartReader_weigh_64 rfl ?_
    refine ee_getI dPartReader_weigh_65 lfPartReader_37 (fun v65 _ => ?_)
    refine ee_icmp_lt (tgt := 78) dPartReader_weigh_68 (by decide) (fun h68 => ?_) (fun h68 => ?_)
    · refine ee_iconst (v := (0 : Int32)) dPartReader_weigh_78 (by decide) ?_
      exact ee_zret rfl dPartReader_weigh_79
    · refine ee_iload 5 dPartReader_weigh_71 rfl ?_
      refine ee_iload 3 dPartReader_weigh_73 rfl ?_
      refine ee_icmp_ge (tgt := 80) dPartReader_weigh_75 (by decide) (fun h75 => ?_) (fun h75 => ?_)
      · refine ee_pick [0, 1, 2, 4, 5] rfl ?_
        exact t_fPartReader_weigh_80 _ _ _ _ _ w
      · refine ee_iconst (v := (0 : Int32)) dPartReader_weigh_78 (by decide) ?_
        exact ee_zret rfl dPartReader_weigh_79
def fPartReader_weigh_11 : Nat → Nat → Int32 → Int32 → Int32 → Int32 → Int32 → PW → PX
  | 0, _, _, _, _, _, _, _ => none
  | n9 + 1, l0, l1, l2, l4, l5, l6, w => (p_getI w l0 6 11).bind fun v14 => if v14 ≤ l5 then (fPartReader_weigh_53 l0 l1 l2 l4 l5 l6 w) else ((p_getR w l0 6 10).bind fun v21 => (p_ald w v21 0 l5).bind fun v26 => if (l4 - l6) < v26 then (fPartReader_weigh_53 l0 l1 l2 l4 l5 l6 w) else ((p_getR w l0 6 10).bind fun v38 => (p_ald w v38 0 l5).bind fun v43 => p_let ((l6 + v43)) fun (l6_45 : Int32) => p_let (l5 + (1 : Int32)) fun (l5_47 : Int32) => (fPartReader_weigh_11 n9) l0 l1 l2 l4 l5_47 l6_45 w))
set_option maxRecDepth 20000 in
set_option maxHeartbeats 2000000 in
theorem t_fPartReader_weigh_11 {Γ : PG} : ∀ (n9 : Nat) (l0 : Nat) (l1 : Int32) (l2 : Int32) (l4 : Int32) (l5 : Int32) (l6 : Int32) (w : PW), EE Γ MPartReader_weigh 11 [(0, .ref l0), (1, .int l1), (2, .int l2), (4, .int l4), (5, .int l5), (6, .int l6)] [] w (fPartReader_weigh_11 n9 l0 l1 l2 l4 l5 l6 w) := by
  intro n9
  induction n9 with
  | zero => intro l0 l1 l2 l4 l5 l6 w; exact ee_none
  | succ n9 ih =>
    intro l0 l1 l2 l4 l5 l6 w
    unfold fPartReader_weigh_11
    refine ee_iload 4 dPartReader_weigh_11 rfl ?_
    refine ee_aload_n 0 dPartReader_weigh_13 rfl ?_
    refine ee_getI dPartReader_weigh_14 lfPartReader_37 (fun v14 _ => ?_)
    refine ee_icmp_ge (tgt := 53) dPartReader_weigh_17 (by decide) (fun h17 => ?_) (fun h17 => ?_)
    · exact t_fPartReader_weigh_53 _ _ _ _ _ _ w
    · refine ee_aload_n 0 dPartReader_weigh_20 rfl ?_
      refine ee_getR dPartReader_weigh_21 lfPartReader_34 (fun v21 _ => ?_)
      refine ee_iload 4 dPartReader_weigh_24 rfl ?_
      refine ee_iald (t := 0) dPartReader_weigh_26 rfl (fun v26 _ => ?_)
      refine ee_iload 3 dPartReader_weigh_27 rfl ?_
      refine ee_iload 5 dPartReader_weigh_29 rfl ?_
      refine ee_isub dPartReader_weigh_31 ?_
      refine ee_icmp_gt (tgt := 53) dPartReader_weigh_32 (by decide) (fun h32 => ?_) (fun h32 => ?_)
      · exact t_fPartReader_weigh_53 _ _ _ _ _ _ w
      · refine ee_iload 5 dPartReader_weigh_35 rfl ?_
        refine ee_aload_n 0 dPartReader_weigh_37 rfl ?_
        refine ee_getR dPartReader_weigh_38 lfPartReader_34 (fun v38 _ => ?_)
        refine ee_iload 4 dPartReader_weigh_41 rfl ?_
        refine ee_iald (t := 0) dPartReader_weigh_43 rfl (fun v43 _ => ?_)
        refine ee_iadd dPartReader_weigh_44 ?_
        refine ee_letI (fun l6_45 _ => ?_)
        refine ee_istore (lv2 := [(6, .int l6_45), (0, .ref l0), (1, .int l1), (2, .int l2), (4, .int l4), (5, .int l5)]) dPartReader_weigh_45 (Nat.le_of_ble_eq_true rfl) rfl ?_
        refine ee_iinc 5 dPartReader_weigh_47 rfl (e := (1 : Int32)) (by decide) (Nat.le_of_ble_eq_true rfl) (fun l5_47 _ => ?_)
        refine ee_lv (lv2 := [(5, .int l5_47), (6, .int l6_45), (0, .ref l0), (1, .int l1), (2, .int l2), (4, .int l4)]) rfl ?_
        refine ee_goto (tgt := 11) dPartReader_weigh_50 (by decide) ?_
        refine ee_pick [2, 3, 4, 5, 0, 1] rfl ?_
        exact ih _ _ _ _ _ _ w
def fPartReader_weigh (l0 : Nat) (l1 : Int32) (l2 : Int32) (l3 : Int32) (w : PW) : PX := p_let ((l3 - l2)) fun (l4_3 : Int32) => fPartReader_weigh_11 FUEL l0 l1 l2 l4_3 (0 : Int32) (0 : Int32) w
set_option maxRecDepth 20000 in
set_option maxHeartbeats 2000000 in
theorem t_fPartReader_weigh {Γ : PG} : ∀ (l0 : Nat) (l1 : Int32) (l2 : Int32) (l3 : Int32) (w : PW), EE Γ MPartReader_weigh 0 (lv_args 0 [.ref l0, .int l1, .int l2, .int l3]) [] w (fPartReader_weigh l0 l1 l2 l3 w) := by
  intro l0 l1 l2 l3 w
  unfold fPartReader_weigh
  show EE Γ MPartReader_weigh 0 [(0, .ref l0), (1, .int l1), (2, .int l2), (3, .int l3)] [] w _
  refine ee_iload_n 3 dPartReader_weigh_0 rfl ?_
  refine ee_iload_n 2 dPartReader_weigh_1 rfl ?_
  refine ee_isub dPartReader_weigh_2 ?_
  refine ee_letI (fun l4_3 _ => ?_)
  refine ee_istore (lv2 := [(4, .int l4_3), (0, .ref l0), (1, .int l1), (2, .int l2), (3, .int l3)]) dPartReader_weigh_3 (Nat.le_of_ble_eq_true rfl) rfl ?_
  refine ee_iconst (v := (0 : Int32)) dPartReader_weigh_5 (by decide) ?_
  refine ee_istore (lv2 := [(5, .int (0 : Int32)), (4, .int l4_3), (0, .ref l0), (1, .int l1), (2, .int l2), (3, .int l3)]) dPartReader_weigh_6 (Nat.le_of_ble_eq_true rfl) rfl ?_
  refine ee_iconst (v := (0 : Int32)) dPartReader_weigh_8 (by decide) ?_
  refine ee_istore (lv2 := [(6, .int (0 : Int32)), (5, .int (0 : Int32)), (4, .int l4_3), (0, .ref l0), (1, .int l1), (2, .int l2), (3, .int l3)]) dPartReader_weigh_9 (Nat.le_of_ble_eq_true rfl) rfl ?_
  refine ee_pick [3, 4, 5, 2, 1, 0] rfl ?_
  exact t_fPartReader_weigh_11 FUEL _ _ _ _ _ _ w
def fPartReader_readPart_160 (l0 : Nat) (l4 : Int32) (w : PW) : PX := (p_getR w l0 6 9).bind fun v161 => (p_ald w v161 0 l4).bind fun v166 => if ¬ v166 = 0 then (some (.inl none, w)) else ((p_getR w l0 6 1).bind fun v171 => (p_obj w v171 7).bind fun _ => p_call (fSettings_forgetTile v171 l4 w) <| p_kV fun w176 => some (.inl none, w176))
set_option maxRecDepth 20000 in
set_option maxHeartbeats 2000000 in
theorem t_fPartReader_readPart_160 {Γ : PG} : ∀ (l0 : Nat) (l4 : Int32) (w : PW), EE Γ MPartReader_readPart 160 [(0, .ref l0), (4, .int l4)] [] w (fPartReader_readPart_160 l0 l4 w) := by
  intro l0 l4 w
  unfold fPartReader_readPart_160
  refine ee_aload_n 0 dPartReader_readPart_160 rfl ?_
  refine ee_getR dPartReader_readPart_161 lfPartReader_31 (fun v161 _ => ?_)
  refine ee_iload 1 dPartReader_readPart_164 rfl ?_
  refine ee_iald (t := 0) dPartReader_readPart_166 rfl (fun v166 _ => ?_)
  refine ee_if_ne (tgt := 179) dPartReader_readPart_167 (by decide) (fun h167 => ?_) (fun h167 => ?_)
  · exact ee_vret rfl dPartReader_readPart_179
  · refine ee_aload_n 0 dPartReader_readPart_170 rfl ?_
    refine ee_getR dPartReader_readPart_171 lfPartReader_48 (fun v171 _ => ?_)
    refine ee_iload 1 dPartReader_readPart_174 rfl ?_
    refine ee_bind (fun _ ho176 => ?_)
    refine ee_callV (as := [.int l4]) (st := []) dPartReader_readPart_176 (t_fSettings_forgetTile v171 l4 w) my_fSettings_forgetTile.1 (Nat.le_of_ble_eq_true rfl) my_fSettings_forgetTile.2 rfl cf_7.1 rfl (p_obj_eq.mp ho176) gw_706 gw_707 gw_708 ⟨Nat.le_of_ble_eq_true rfl, Nat.le_of_ble_eq_true rfl⟩ (Nat.le_of_ble_eq_true rfl) (fun rv176 w176 _ => ?_)
    refine ee_kV ?_
    exact ee_vret rfl dPartReader_readPart_179
def fPartReader_readPart (l0 : Nat) (l1 : Int32) (l2 : Int32) (w : PW) : PX := (p_getR w l0 6 4).bind fun v1 => (p_ald w v1 0 l1).bind fun v5 => (p_getR w l0 6 0).bind fun v8 => (p_obj w v8 2).bind fun _ => p_call (fBytes_number v8 (v5 + (4 : Int32)) (2 : Int32) w) <| p_kJ fun v15 w15 => p_let ((Int64.toInt32 v15)) fun (l4_19 : Int32) => (p_getR w15 l0 6 3).bind fun v22 => (p_ast w15 v22 0 l1 (-1 : Int32)).bind fun w27 => (p_getR w27 l0 6 5).bind fun v29 => (p_ast w27 v29 0 l1 (0 : Int32)).bind fun w34 => (p_getR w34 l0 6 6).bind fun v36 => (p_ast w34 v36 0 l1 (0 : Int32)).bind fun w41 => (p_getR w41 l0 6 7).bind fun v43 => (p_ast w41 v43 0 l1 (0 : Int32)).bind fun w48 => (p_getR w48 l0 6 0).bind fun v50 => (p_obj w48 v50 2).bind fun _ => p_call (fBytes_number v50 (v5 + (2 : Int32)) (2 : Int32) w48) <| p_kJ fun v57 w57 => if ¬ (lg_cmp v57 (10 : Int64)) = 0 then (some (.inl none, w57)) else ((p_getR w57 l0 6 1).bind fun v68 => (p_obj w57 v68 7).bind fun _ => p_call (fSettings_isTile v68 l4_19 w57) <| p_kI fun v73 w73 => if v73 = 0 then (some (.inl none, w73)) else (if (24 : Int32) ≤ l4_19 then (some (.inl none, w73)) else ((p_getR w73 l0 6 0).bind fun v87 => (p_obj w73 v87 2).bind fun _ => p_call (fBytes_get v87 (v5 + (10 : Int32)) w73) <| p_kI fun v94 w94 => (p_getR w94 l0 6 9).bind fun v98 => (p_ald w94 v98 0 l4_19).bind fun v103 => if v94 = v103 then ((p_obj w94 l0 6).bind fun _ => p_call (fPartReader_readPartHead l0 (v5 + (12 : Int32)) l2 l4_19 w94) <| p_kI fun v116 w116 => if v116 = (-1 : Int32) then (fPartReader_readPart_160 l0 l4_19 w116) else ((p_obj w116 l0 6).bind fun _ => p_call (fPartReader_weigh l0 l1 v116 l2 w116) <| p_kI fun v132 w132 => if v132 = 0 then (fPartReader_readPart_160 l0 l4_19 w132) else ((p_getR w132 l0 6 3).bind fun v139 => (p_ast w132 v139 0 l1 l4_19).bind fun w145 => (p_getR w145 l0 6 9).bind fun v147 => (p_ald w145 v147 0 l4_19).bind fun v153 => (p_ast w145 v147 0 l4_19 (v153 + (1 : Int32))).bind fun w156 => some (.inl none, w156)))) else (some (.inl none, w94)))))
set_option maxRecDepth 20000 in
set_option maxHeartbeats 2000000 in
theorem t_fPartReader_readPart {Γ : PG} : ∀ (l0 : Nat) (l1 : Int32) (l2 : Int32) (w : PW), EE Γ MPartReader_readPart 0 (lv_args 0 [.ref l0, .int l1, .int l2]) [] w (fPartReader_readPart l0 l1 l2 w) := by
  intro l0 l1 l2 w
  unfold fPartReader_readPart
  show EE Γ MPartReader_readPart 0 [(0, .ref l0), (1, .int l1), (2, .int l2)] [] w _
  refine ee_aload_n 0 dPartReader_readPart_0 rfl ?_
  refine ee_getR dPartReader_readPart_1 lfPartReader_15 (fun v1 _ => ?_)
  refine ee_iload_n 1 dPartReader_readPart_4 rfl ?_
  refine ee_iald (t := 0) dPartReader_readPart_5 rfl (fun v5 _ => ?_)
  refine ee_istore_n (lv2 := [(3, .int v5), (0, .ref l0), (1, .int l1), (2, .int l2)]) dPartReader_readPart_6 (Nat.le_of_ble_eq_true rfl) rfl ?_
  refine ee_aload_n 1 dPartReader_readPart_7 rfl ?_
  refine ee_getR dPartReader_readPart_8 lfPartReader_44 (fun v8 _ => ?_)
  refine ee_iload_n 0 dPartReader_readPart_11 rfl ?_
  refine ee_iconst (v := (4 : Int32)) dPartReader_readPart_12 (by decide) ?_
  refine ee_iadd dPartReader_readPart_13 ?_
  refine ee_iconst (v := (2 : Int32)) dPartReader_readPart_14 (by decide) ?_
  refine ee_bind (fun _ ho15 => ?_)
  refine ee_callV (as := [.int (v5 + (4 : Int32)), .int (2 : Int32)]) (st := []) dPartReader_readPart_15 (t_fBytes_number v8 (v5 + (4 : Int32)) (2 : Int32) w) my_fBytes_number.1 (Nat.le_of_ble_eq_true rfl) my_fBytes_number.2 rfl cf_2.1 rfl (p_obj_eq.mp ho15) gw_673 gw_538 gw_539 ⟨Nat.le_of_ble_eq_true rfl, Nat.le_of_ble_eq_true rfl⟩ (Nat.le_of_ble_eq_true rfl) (fun rv15 w15 _ => ?_)
  refine ee_kJ (fun v15 => ?_)
  refine ee_l2i dPartReader_readPart_18 ?_
  refine ee_letI (fun l4_19 _ => ?_)
  refine ee_istore (lv2 := [(4, .int l4_19), (3, .int v5), (0, .ref l0), (1, .int l1), (2, .int l2)]) dPartReader_readPart_19 (Nat.le_of_ble_eq_true rfl) rfl ?_
  refine ee_aload_n 2 dPartReader_readPart_21 rfl ?_
  refine ee_getR dPartReader_readPart_22 lfPartReader_9 (fun v22 _ => ?_)
  refine ee_iload_n 3 dPartReader_readPart_25 rfl ?_
  refine ee_iconst (v := (-1 : Int32)) dPartReader_readPart_26 (by decide) ?_
  refine ee_iast (t := 0) dPartReader_readPart_27 rfl (fun w27 _ => ?_)
  refine ee_aload_n 2 dPartReader_readPart_28 rfl ?_
  refine ee_getR dPartReader_readPart_29 lfPartReader_18 (fun v29 _ => ?_)
  refine ee_iload_n 3 dPartReader_readPart_32 rfl ?_
  refine ee_iconst (v := (0 : Int32)) dPartReader_readPart_33 (by decide) ?_
  refine ee_iast (t := 0) dPartReader_readPart_34 rfl (fun w34 _ => ?_)
  refine ee_aload_n 2 dPartReader_readPart_35 rfl ?_
  refine ee_getR dPartReader_readPart_36 lfPartReader_21 (fun v36 _ => ?_)
  refine ee_iload_n 3 dPartReader_readPart_39 rfl ?_
  refine ee_iconst (v := (0 : Int32)) dPartReader_readPart_40 (by decide) ?_
  refine ee_iast (t := 0) dPartReader_readPart_41 rfl (fun w41 _ => ?_)
  refine ee_aload_n 2 dPartReader_readPart_42 rfl ?_
  refine ee_getR dPartReader_readPart_43 lfPartReader_24 (fun v43 _ => ?_)
  refine ee_iload_n 3 dPartReader_readPart_46 rfl ?_
  refine ee_iconst (v := (0 : Int32)) dPartReader_readPart_47 (by decide) ?_
  refine ee_iast (t := 0) dPartReader_readPart_48 rfl (fun w48 _ => ?_)
  refine ee_aload_n 2 dPartReader_readPart_49 rfl ?_
  refine ee_getR dPartReader_readPart_50 lfPartReader_44 (fun v50 _ => ?_)
  refine ee_iload_n 1 dPartReader_readPart_53 rfl ?_
  refine ee_iconst (v := (2 : Int32)) dPartReader_readPart_54 (by decide) ?_
  refine ee_iadd dPartReader_readPart_55 ?_
  refine ee_iconst (v := (2 : Int32)) dPartReader_readPart_56 (by decide) ?_
  refine ee_bind (fun _ ho57 => ?_)
  refine ee_callV (as := [.int (v5 + (2 : Int32)), .int (2 : Int32)]) (st := []) dPartReader_readPart_57 (t_fBytes_number v50 (v5 + (2 : Int32)) (2 : Int32) w48) my_fBytes_number.1 (Nat.le_of_ble_eq_true rfl) my_fBytes_number.2 rfl cf_2.1 rfl (p_obj_eq.mp ho57) gw_673 gw_538 gw_539 ⟨Nat.le_of_ble_eq_true rfl, Nat.le_of_ble_eq_true rfl⟩ (Nat.le_of_ble_eq_true rfl) (fun rv57 w57 _ => ?_)
  refine ee_kJ (fun v57 => ?_)
  refine ee_ldc2 (v := (10 : Int64)) dPartReader_readPart_60 gw_679 ?_
  refine ee_lcmp dPartReader_readPart_63 ?_
  refine ee_if_ne (tgt := 107) dPartReader_readPart_64 (by decide) (fun h64 => ?_) (fun h64 => ?_)
  · exact ee_vret rfl dPartReader_readPart_107
  · refine ee_aload_n 2 dPartReader_readPart_67 rfl ?_
    refine ee_getR dPartReader_readPart_68 lfPartReader_48 (fun v68 _ => ?_)
    refine ee_iload 0 dPartReader_readPart_71 rfl ?_
    refine ee_bind (fun _ ho73 => ?_)
    refine ee_callV (as := [.int l4_19]) (st := []) dPartReader_readPart_73 (t_fSettings_isTile v68 l4_19 w57) my_fSettings_isTile.1 (Nat.le_of_ble_eq_true rfl) my_fSettings_isTile.2 rfl cf_7.1 rfl (p_obj_eq.mp ho73) gw_680 gw_681 gw_682 ⟨Nat.le_of_ble_eq_true rfl, Nat.le_of_ble_eq_true rfl⟩ (Nat.le_of_ble_eq_true rfl) (fun rv73 w73 _ => ?_)
    refine ee_kI (fun v73 => ?_)
    refine ee_if_eq (tgt := 107) dPartReader_readPart_76 (by decide) (fun h76 => ?_) (fun h76 => ?_)
    · exact ee_vret rfl dPartReader_readPart_107
    · refine ee_iload 0 dPartReader_readPart_79 rfl ?_
      refine ee_bipush (v := (24 : Int32)) dPartReader_readPart_81 (by decide) ?_
      refine ee_icmp_ge (tgt := 107) dPartReader_readPart_83 (by decide) (fun h83 => ?_) (fun h83 => ?_)
      · exact ee_vret rfl dPartReader_readPart_107
      · refine ee_aload_n 2 dPartReader_readPart_86 rfl ?_
        refine ee_getR dPartReader_readPart_87 lfPartReader_44 (fun v87 _ => ?_)
        refine ee_iload_n 1 dPartReader_readPart_90 rfl ?_
        refine ee_bipush (v := (10 : Int32)) dPartReader_readPart_91 (by decide) ?_
        refine ee_iadd dPartReader_readPart_93 ?_
        refine ee_bind (fun _ ho94 => ?_)
        refine ee_callV (as := [.int (v5 + (10 : Int32))]) (st := []) dPartReader_readPart_94 (t_fBytes_get v87 (v5 + (10 : Int32)) w73) my_fBytes_get.1 (Nat.le_of_ble_eq_true rfl) my_fBytes_get.2 rfl cf_2.1 rfl (p_obj_eq.mp ho94) gw_685 gw_459 gw_460 ⟨Nat.le_of_ble_eq_true rfl, Nat.le_of_ble_eq_true rfl⟩ (Nat.le_of_ble_eq_true rfl) (fun rv94 w94 _ => ?_)
        refine ee_kI (fun v94 => ?_)
        refine ee_aload_n 2 dPartReader_readPart_97 rfl ?_
        refine ee_getR dPartReader_readPart_98 lfPartReader_31 (fun v98 _ => ?_)
        refine ee_iload 0 dPartReader_readPart_101 rfl ?_
        refine ee_iald (t := 0) dPartReader_readPart_103 rfl (fun v103 _ => ?_)
        refine ee_icmp_eq (tgt := 108) dPartReader_readPart_104 (by decide) (fun h104 => ?_) (fun h104 => ?_)
        · refine ee_aload_n 2 dPartReader_readPart_108 rfl ?_
          refine ee_iload_n 1 dPartReader_readPart_109 rfl ?_
          refine ee_bipush (v := (12 : Int32)) dPartReader_readPart_110 (by decide) ?_
          refine ee_iadd dPartReader_readPart_112 ?_
          refine ee_iload_n 4 dPartReader_readPart_113 rfl ?_
          refine ee_iload 0 dPartReader_readPart_114 rfl ?_
          refine ee_bind (fun _ ho116 => ?_)
          refine ee_callV (as := [.int (v5 + (12 : Int32)), .int l2, .int l4_19]) (st := []) dPartReader_readPart_116 (t_fPartReader_readPartHead l0 (v5 + (12 : Int32)) l2 l4_19 w94) my_fPartReader_readPartHead.1 (Nat.le_of_ble_eq_true rfl) my_fPartReader_readPartHead.2 rfl cf_6.1 rfl (p_obj_eq.mp ho116) gw_686 gw_687 gw_688 ⟨Nat.le_of_ble_eq_true rfl, Nat.le_of_ble_eq_true rfl⟩ (Nat.le_of_ble_eq_true rfl) (fun rv116 w116 _ => ?_)
          refine ee_kI (fun v116 => ?_)
          refine ee_istore (lv2 := [(5, .int v116), (4, .int l4_19), (3, .int v5), (0, .ref l0), (1, .int l1), (2, .int l2)]) dPartReader_readPart_119 (Nat.le_of_ble_eq_true rfl) rfl ?_
          refine ee_iload 0 dPartReader_readPart_121 rfl ?_
          refine ee_iconst (v := (-1 : Int32)) dPartReader_readPart_123 (by decide) ?_
          refine ee_icmp_eq (tgt := 160) dPartReader_readPart_124 (by decide) (fun h124 => ?_) (fun h124 => ?_)
          · refine ee_pick [3, 1] rfl ?_
            exact t_fPartReader_readPart_160 _ _ w116
          · refine ee_aload_n 3 dPartReader_readPart_127 rfl ?_
            refine ee_iload_n 4 dPartReader_readPart_128 rfl ?_
            refine ee_iload 0 dPartReader_readPart_129 rfl ?_
            refine ee_iload_n 5 dPartReader_readPart_131 rfl ?_
            refine ee_bind (fun _ ho132 => ?_)
            refine ee_callV (as := [.int l1, .int v116, .int l2]) (st := []) dPartReader_readPart_132 (t_fPartReader_weigh l0 l1 v116 l2 w116) my_fPartReader_weigh.1 (Nat.le_of_ble_eq_true rfl) my_fPartReader_weigh.2 rfl cf_6.1 rfl (p_obj_eq.mp ho132) gw_702 gw_703 gw_704 ⟨Nat.le_of_ble_eq_true rfl, Nat.le_of_ble_eq_true rfl⟩ (Nat.le_of_ble_eq_true rfl) (fun rv132 w132 _ => ?_)
            refine ee_kI (fun v132 => ?_)
            refine ee_if_eq (tgt := 160) dPartReader_readPart_135 (by decide) (fun h135 => ?_) (fun h135 => ?_)
            · refine ee_pick [3, 1] rfl ?_
              exact t_fPartReader_readPart_160 _ _ w132
            · refine ee_aload_n 3 dPartReader_readPart_138 rfl ?_
              refine ee_getR dPartReader_readPart_139 lfPartReader_9 (fun v139 _ => ?_)
              refine ee_iload_n 4 dPartReader_readPart_142 rfl ?_
              refine ee_iload 1 dPartReader_readPart_143 rfl ?_
              refine ee_iast (t := 0) dPartReader_readPart_145 rfl (fun w145 _ => ?_)
              refine ee_aload_n 3 dPartReader_readPart_146 rfl ?_
              refine ee_getR dPartReader_readPart_147 lfPartReader_31 (fun v147 _ => ?_)
              refine ee_iload 1 dPartReader_readPart_150 rfl ?_
              refine ee_dup2 dPartReader_readPart_152 rfl rfl ?_
              refine ee_iald (t := 0) dPartReader_readPart_153 rfl (fun v153 _ => ?_)
              refine ee_iconst (v := (1 : Int32)) dPartReader_readPart_154 (by decide) ?_
              refine ee_iadd dPartReader_readPart_155 ?_
              refine ee_iast (t := 0) dPartReader_readPart_156 rfl (fun w156 _ => ?_)
              refine ee_goto (tgt := 179) dPartReader_readPart_157 (by decide) ?_
              exact ee_vret rfl dPartReader_readPart_179
        · exact ee_vret rfl dPartReader_readPart_107
def fPartReader_readParts_74 (k_5 : Nat → Int32 → Int32 → Int32 → PW → PX) (l0 : Nat) (l2 : Int32) (l3 : Int32) (l4 : Int32) (l7 : Int32) (s0 : Int32) (w : PW) : PX := (p_getR w l0 6 4).bind fun v77 => (p_ast w v77 0 l4 l3).bind fun w83 => (p_getR w83 l0 6 8).bind fun v85 => (p_ast w83 v85 2 l4 (vp_nar .boolean l7)).bind fun w92 => (p_obj w92 l0 6).bind fun _ => p_call (fPartReader_readPart l0 l4 s0 w92) <| p_kV fun w98 => (p_put w98 l0 6 12 (.int (l4 + (1 : Int32)))).bind fun w106 => p_let (l4 + (1 : Int32)) fun (l4_112 : Int32) => k_5 l0 l2 s0 l4_112 w106
set_option maxRecDepth 20000 in
set_option maxHeartbeats 2000000 in
theorem t_fPartReader_readParts_74 {Γ : PG} {k_5 : Nat → Int32 → Int32 → Int32 → PW → PX} (hk_5 : ∀ (l0 : Nat) (l2 : Int32) (l3 : Int32) (l4 : Int32) (w : PW), EE Γ MPartReader_readParts 5 [(0, .ref l0), (2, .int l2), (3, .int l3), (4, .int l4)] [] w (k_5 l0 l2 l3 l4 w)) : ∀ (l0 : Nat) (l2 : Int32) (l3 : Int32) (l4 : Int32) (l7 : Int32) (s0 : Int32) (w : PW), EE Γ MPartReader_readParts 74 [(0, .ref l0), (2, .int l2), (3, .int l3), (4, .int l4), (7, .int l7)] [.int s0] w (fPartReader_readParts_74 k_5 l0 l2 l3 l4 l7 s0 w) := by
  intro l0 l2 l3 l4 l7 s0 w
  unfold fPartReader_readParts_74
  refine ee_istore (lv2 := [(8, .int s0), (0, .ref l0), (2, .int l2), (3, .int l3), (4, .int l4), (7, .int l7)]) dPartReader_readParts_74 (Nat.le_of_ble_eq_true rfl) rfl ?_
  refine ee_aload_n 1 dPartReader_readParts_76 rfl ?_
  refine ee_getR dPartReader_readParts_77 lfPartReader_15 (fun v77 _ => ?_)
  refine ee_iload 4 dPartReader_readParts_80 rfl ?_
  refine ee_iload_n 3 dPartReader_readParts_82 rfl ?_
  refine ee_iast (t := 0) dPartReader_readParts_83 rfl (fun w83 _ => ?_)
  refine ee_aload_n 1 dPartReader_readParts_84 rfl ?_
  refine ee_getR dPartReader_readParts_85 lfPartReader_27 (fun v85 _ => ?_)
  refine ee_iload 4 dPartReader_readParts_88 rfl ?_
  refine ee_iload 5 dPartReader_readParts_90 rfl ?_
  refine ee_zast (t := 2) dPartReader_readParts_92 rfl (fun w92 _ => ?_)
  refine ee_aload_n 1 dPartReader_readParts_93 rfl ?_
  refine ee_iload 4 dPartReader_readParts_94 rfl ?_
  refine ee_iload 0 dPartReader_readParts_96 rfl ?_
  refine ee_bind (fun _ ho98 => ?_)
  refine ee_callV (as := [.int l4, .int s0]) (st := []) dPartReader_readParts_98 (t_fPartReader_readPart l0 l4 s0 w92) my_fPartReader_readPart.1 (Nat.le_of_ble_eq_true rfl) my_fPartReader_readPart.2 rfl cf_6.1 rfl (p_obj_eq.mp ho98) gw_675 gw_676 gw_677 ⟨Nat.le_of_ble_eq_true rfl, Nat.le_of_ble_eq_true rfl⟩ (Nat.le_of_ble_eq_true rfl) (fun rv98 w98 _ => ?_)
  refine ee_kV ?_
  refine ee_aload_n 1 dPartReader_readParts_101 rfl ?_
  refine ee_iload 4 dPartReader_readParts_102 rfl ?_
  refine ee_iconst (v := (1 : Int32)) dPartReader_readParts_104 (by decide) ?_
  refine ee_iadd dPartReader_readParts_105 ?_
  refine ee_put dPartReader_readParts_106 lpPartReader_41 (ee_nI _) (fun w106 _ => ?_)
  refine ee_iload 0 dPartReader_readParts_109 rfl ?_
  refine ee_istore_n (lv2 := [(3, .int s0), (8, .int s0), (0, .ref l0), (2, .int l2), (4, .int l4), (7, .int l7)]) dPartReader_readParts_111 (Nat.le_of_ble_eq_true rfl) rfl ?_
  refine ee_iinc 4 dPartReader_readParts_112 rfl (e := (1 : Int32)) (by decide) (Nat.le_of_ble_eq_true rfl) (fun l4_112 _ => ?_)
  refine ee_lv (lv2 := [(4, .int l4_112), (3, .int s0), (8, .int s0), (0, .ref l0), (2, .int l2), (7, .int l7)]) rfl ?_
  refine ee_goto (tgt := 5) dPartReader_readParts_115 (by decide) ?_
  refine ee_pick [3, 4, 1, 0] rfl ?_
  exact hk_5 _ _ _ _ w106
def fPartReader_readParts_51 (k_5 : Nat → Int32 → Int32 → Int32 → PW → PX) (l0 : Nat) (l2 : Int32) (l3 : Int32) (l4 : Int32) (l5 : Int64) (s0 : Int32) (w : PW) : PX := if ¬ s0 = 0 then (fPartReader_readParts_74 k_5 l0 l2 l3 l4 s0 l2 w) else (if ¬ (lg_cmp l5 (0 : Int64)) = 0 then (fPartReader_readParts_74 k_5 l0 l2 l3 l4 s0 (l3 + (Int64.toInt32 l5)) w) else (fPartReader_readParts_74 k_5 l0 l2 l3 l4 s0 l2 w))
set_option maxRecDepth 20000 in
set_option maxHeartbeats 2000000 in
theorem t_fPartReader_readParts_51 {Γ : PG} {k_5 : Nat → Int32 → Int32 → Int32 → PW → PX} (hk_5 : ∀ (l0 : Nat) (l2 : Int32) (l3 : Int32) (l4 : Int32) (w : PW), EE Γ MPartReader_readParts 5 [(0, .ref l0), (2, .int l2), (3, .int l3), (4, .int l4)] [] w (k_5 l0 l2 l3 l4 w)) : ∀ (l0 : Nat) (l2 : Int32) (l3 : Int32) (l4 : Int32) (l5 : Int64) (s0 : Int32) (w : PW), EE Γ MPartReader_readParts 51 [(0, .ref l0), (2, .int l2), (3, .int l3), (4, .int l4), (5, .long l5)] [.int s0] w (fPartReader_readParts_51 k_5 l0 l2 l3 l4 l5 s0 w) := by
  intro l0 l2 l3 l4 l5 s0 w
  unfold fPartReader_readParts_51
  refine ee_istore (lv2 := [(7, .int s0), (0, .ref l0), (2, .int l2), (3, .int l3), (4, .int l4), (5, .long l5)]) dPartReader_readParts_51 (Nat.le_of_ble_eq_true rfl) rfl ?_
  refine ee_iload 0 dPartReader_readParts_53 rfl ?_
  refine ee_if_ne (tgt := 65) dPartReader_readParts_55 (by decide) (fun h55 => ?_) (fun h55 => ?_)
  · refine ee_iload_n 2 dPartReader_readParts_65 rfl ?_
    refine ee_goto (tgt := 74) dPartReader_readParts_66 (by decide) ?_
    refine ee_pick [1, 2, 3, 4, 0] rfl ?_
    exact t_fPartReader_readParts_74 hk_5 _ _ _ _ _ _ w
  · refine ee_lload 5 dPartReader_readParts_58 rfl ?_
    refine ee_lconst (v := (0 : Int64)) dPartReader_readParts_60 (by decide) ?_
    refine ee_lcmp dPartReader_readParts_61 ?_
    refine ee_if_ne (tgt := 69) dPartReader_readParts_62 (by decide) (fun h62 => ?_) (fun h62 => ?_)
    · refine ee_iload_n 3 dPartReader_readParts_69 rfl ?_
      refine ee_lload 5 dPartReader_readParts_70 rfl ?_
      refine ee_l2i dPartReader_readParts_72 ?_
      refine ee_iadd dPartReader_readParts_73 ?_
      refine ee_pick [1, 2, 3, 4, 0] rfl ?_
      exact t_fPartReader_readParts_74 hk_5 _ _ _ _ _ _ w
    · refine ee_iload_n 2 dPartReader_readParts_65 rfl ?_
      refine ee_goto (tgt := 74) dPartReader_readParts_66 (by decide) ?_
      refine ee_pick [1, 2, 3, 4, 0] rfl ?_
      exact t_fPartReader_readParts_74 hk_5 _ _ _ _ _ _ w
def fPartReader_readParts_5 : Nat → Nat → Int32 → Int32 → Int32 → PW → PX
  | 0, _, _, _, _, _ => none
  | n9 + 1, l0, l2, l3, l4, w => if (300 : Int32) ≤ l4 then (some (.inl none, w)) else ((p_obj w l0 6).bind fun _ => p_call (fPartReader_beginsPart l0 l3 l2 w) <| p_kI fun v16 w16 => if v16 = 0 then (some (.inl none, w16)) else ((p_getR w16 l0 6 0).bind fun v23 => (p_obj w16 v23 2).bind fun _ => p_call (fBytes_number v23 (l3 + (6 : Int32)) (4 : Int32) w16) <| p_kJ fun v31 w31 => if (lg_cmp v31 (Int32.toInt64 (l2 - l3))) ≤ 0 then (fPartReader_readParts_51 (fPartReader_readParts_5 n9) l0 l2 l3 l4 v31 (0 : Int32) w31) else (fPartReader_readParts_51 (fPartReader_readParts_5 n9) l0 l2 l3 l4 v31 (1 : Int32) w31)))
set_option maxRecDepth 20000 in
set_option maxHeartbeats 2000000 in
theorem t_fPartReader_readParts_5 {Γ : PG} : ∀ (n9 : Nat) (l0 : Nat) (l2 : Int32) (l3 : Int32) (l4 : Int32) (w : PW), EE Γ MPartReader_readParts 5 [(0, .ref l0), (2, .int l2), (3, .int l3), (4, .int l4)] [] w (fPartReader_readParts_5 n9 l0 l2 l3 l4 w) := by
  intro n9
  induction n9 with
  | zero => intro l0 l2 l3 l4 w; exact ee_none
  | succ n9 ih =>
    intro l0 l2 l3 l4 w
    unfold fPartReader_readParts_5
    refine ee_iload 3 dPartReader_readParts_5 rfl ?_
    refine ee_sipush (v := (300 : Int32)) dPartReader_readParts_7 (by decide) ?_
    refine ee_icmp_ge (tgt := 118) dPartReader_readParts_10 (by decide) (fun h10 => ?_) (fun h10 => ?_)
    · exact ee_vret rfl dPartReader_readParts_118
    · refine ee_aload_n 0 dPartReader_readParts_13 rfl ?_
      refine ee_iload_n 2 dPartReader_readParts_14 rfl ?_
      refine ee_iload_n 1 dPartReader_readParts_15 rfl ?_
      refine ee_bind (fun _ ho16 => ?_)
      refine ee_callV (as := [.int l3, .int l2]) (st := []) dPartReader_readParts_16 (t_fPartReader_beginsPart l0 l3 l2 w) my_fPartReader_beginsPart.1 (Nat.le_of_ble_eq_true rfl) my_fPartReader_beginsPart.2 rfl cf_6.1 rfl (p_obj_eq.mp ho16) gw_668 gw_669 gw_670 ⟨Nat.le_of_ble_eq_true rfl, Nat.le_of_ble_eq_true rfl⟩ (Nat.le_of_ble_eq_true rfl) (fun rv16 w16 _ => ?_)
      refine ee_kI (fun v16 => ?_)
      refine ee_if_eq (tgt := 118) dPartReader_readParts_19 (by decide) (fun h19 => ?_) (fun h19 => ?_)
      · exact ee_vret rfl dPartReader_readParts_118
      · refine ee_aload_n 0 dPartReader_readParts_22 rfl ?_
        refine ee_getR dPartReader_readParts_23 lfPartReader_44 (fun v23 _ => ?_)
        refine ee_iload_n 2 dPartReader_readParts_26 rfl ?_
        refine ee_bipush (v := (6 : Int32)) dPartReader_readParts_27 (by decide) ?_
        refine ee_iadd dPartReader_readParts_29 ?_
        refine ee_iconst (v := (4 : Int32)) dPartReader_readParts_30 (by decide) ?_
        refine ee_bind (fun _ ho31 => ?_)
        refine ee_callV (as := [.int (l3 + (6 : Int32)), .int (4 : Int32)]) (st := []) dPartReader_readParts_31 (t_fBytes_number v23 (l3 + (6 : Int32)) (4 : Int32) w16) my_fBytes_number.1 (Nat.le_of_ble_eq_true rfl) my_fBytes_number.2 rfl cf_2.1 rfl (p_obj_eq.mp ho31) gw_673 gw_538 gw_539 ⟨Nat.le_of_ble_eq_true rfl, Nat.le_of_ble_eq_true rfl⟩ (Nat.le_of_ble_eq_true rfl) (fun rv31 w31 _ => ?_)
        refine ee_kJ (fun v31 => ?_)
        refine ee_lstore (lv2 := [(5, .long v31), (0, .ref l0), (2, .int l2), (3, .int l3), (4, .int l4)]) dPartReader_readParts_34 (Nat.le_of_ble_eq_true rfl) rfl ?_
        refine ee_lload 0 dPartReader_readParts_36 rfl ?_
        refine ee_iload_n 2 dPartReader_readParts_38 rfl ?_
        refine ee_iload_n 3 dPartReader_readParts_39 rfl ?_
        refine ee_isub dPartReader_readParts_40 ?_
        refine ee_i2l dPartReader_readParts_41 ?_
        refine ee_lcmp dPartReader_readParts_42 ?_
        refine ee_if_le (tgt := 50) dPartReader_readParts_43 (by decide) (fun h43 => ?_) (fun h43 => ?_)
        · refine ee_iconst (v := (0 : Int32)) dPartReader_readParts_50 (by decide) ?_
          refine ee_pick [1, 2, 3, 4, 0] rfl ?_
          exact t_fPartReader_readParts_51 ih _ _ _ _ _ _ w31
        · refine ee_iconst (v := (1 : Int32)) dPartReader_readParts_46 (by decide) ?_
          refine ee_goto (tgt := 51) dPartReader_readParts_47 (by decide) ?_
          refine ee_pick [1, 2, 3, 4, 0] rfl ?_
          exact t_fPartReader_readParts_51 ih _ _ _ _ _ _ w31
def fPartReader_readParts (l0 : Nat) (l1 : Int32) (l2 : Int32) (w : PW) : PX := fPartReader_readParts_5 FUEL l0 l2 l1 (0 : Int32) w
set_option maxRecDepth 20000 in
set_option maxHeartbeats 2000000 in
theorem t_fPartReader_readParts {Γ : PG} : ∀ (l0 : Nat) (l1 : Int32) (l2 : Int32) (w : PW), EE Γ MPartReader_readParts 0 (lv_args 0 [.ref l0, .int l1, .int l2]) [] w (fPartReader_readParts l0 l1 l2 w) := by
  intro l0 l1 l2 w
  unfold fPartReader_readParts
  show EE Γ MPartReader_readParts 0 [(0, .ref l0), (1, .int l1), (2, .int l2)] [] w _
  refine ee_iload_n 1 dPartReader_readParts_0 rfl ?_
  refine ee_istore_n (lv2 := [(3, .int l1), (0, .ref l0), (1, .int l1), (2, .int l2)]) dPartReader_readParts_1 (Nat.le_of_ble_eq_true rfl) rfl ?_
  refine ee_iconst (v := (0 : Int32)) dPartReader_readParts_2 (by decide) ?_
  refine ee_istore (lv2 := [(4, .int (0 : Int32)), (3, .int l1), (0, .ref l0), (1, .int l1), (2, .int l2)]) dPartReader_readParts_3 (Nat.le_of_ble_eq_true rfl) rfl ?_
  refine ee_pick [2, 4, 1, 0] rfl ?_
  exact t_fPartReader_readParts_5 FUEL _ _ _ _ w
def fAbstractCollection_init (l0 : Nat) (w : PW) : PX := some (.inl none, w)
set_option maxRecDepth 20000 in
set_option maxHeartbeats 2000000 in
theorem t_fAbstractCollection_init {Γ : PG} : ∀ (l0 : Nat) (w : PW), EE Γ MAbstractCollection_init 0 (lv_args 0 [.ref l0]) [] w (fAbstractCollection_init l0 w) := by
  intro l0 w
  unfold fAbstractCollection_init
  show EE Γ MAbstractCollection_init 0 [(0, .ref l0)] [] w _
  refine ee_aload_n 0 dAbstractCollection_init_0 rfl ?_
  refine ee_objInit dAbstractCollection_init_1 gw_137 gw_obji gw_objc ⟨Nat.le_of_ble_eq_true rfl, Nat.le_of_ble_eq_true rfl⟩ ?_
  exact ee_vret rfl dAbstractCollection_init_4
def fAbstractList_init (l0 : Nat) (w : PW) : PX := p_call (fAbstractCollection_init l0 w) <| p_kV fun w1 => (p_put w1 l0 11 0 (.int (0 : Int32))).bind fun w6 => some (.inl none, w6)
set_option maxRecDepth 20000 in
set_option maxHeartbeats 2000000 in
theorem t_fAbstractList_init {Γ : PG} : ∀ (l0 : Nat) (w : PW), EE Γ MAbstractList_init 0 (lv_args 0 [.ref l0]) [] w (fAbstractList_init l0 w) := by
  intro l0 w
  unfold fAbstractList_init
  show EE Γ MAbstractList_init 0 [(0, .ref l0)] [] w _
  refine ee_aload_n 0 dAbstractList_init_0 rfl ?_
  refine ee_callI (as := []) (st := []) dAbstractList_init_1 (t_fAbstractCollection_init l0 w) my_fAbstractCollection_init.1 (Nat.le_of_ble_eq_true rfl) my_fAbstractCollection_init.2 rfl rfl rfl gw_134 gw_135 ⟨Nat.le_of_ble_eq_true rfl, Nat.le_of_ble_eq_true rfl⟩ (Nat.le_of_ble_eq_true rfl) (fun rv1 w1 _ => ?_)
  refine ee_kV ?_
  refine ee_aload_n 0 dAbstractList_init_4 rfl ?_
  refine ee_iconst (v := (0 : Int32)) dAbstractList_init_5 (by decide) ?_
  refine ee_put dAbstractList_init_6 lpiAbstractList_7 (ee_nI _) (fun w6 _ => ?_)
  exact ee_vret rfl dAbstractList_init_9
def fAL_init1 (l0 : Nat) (w : PW) : PX := p_call (fAbstractList_init l0 w) <| p_kV fun w1 => (p_put w1 l0 11 1 (.retAddr 3)).bind fun w8 => some (.inl none, w8)
set_option maxRecDepth 20000 in
set_option maxHeartbeats 2000000 in
theorem t_fAL_init1 {Γ : PG} : ∀ (l0 : Nat) (w : PW), EE Γ MAL_init1 0 (lv_args 0 [.ref l0]) [] w (fAL_init1 l0 w) := by
  intro l0 w
  unfold fAL_init1
  show EE Γ MAL_init1 0 [(0, .ref l0)] [] w _
  refine ee_aload_n 0 dAL_init1_0 rfl ?_
  refine ee_callI (as := []) (st := []) dAL_init1_1 (t_fAbstractList_init l0 w) my_fAbstractList_init.1 (Nat.le_of_ble_eq_true rfl) my_fAbstractList_init.2 rfl rfl rfl gw_131 gw_132 ⟨Nat.le_of_ble_eq_true rfl, Nat.le_of_ble_eq_true rfl⟩ (Nat.le_of_ble_eq_true rfl) (fun rv1 w1 _ => ?_)
  refine ee_kV ?_
  refine ee_aload_n 0 dAL_init1_4 rfl ?_
  refine ee_getsE dAL_init1_5 gw_138 ?_
  refine ee_put dAL_init1_8 lpiAL_9 (ee_nT _ _) (fun w8 _ => ?_)
  exact ee_vret rfl dAL_init1_11
def fW_nearestSide (l0 : Int32) (w : PW) : PX := some (.inl (some (.int (p_max (1 : Int32) (p_min (2000 : Int32) l0)))), w)
set_option maxRecDepth 20000 in
set_option maxHeartbeats 2000000 in
theorem t_fW_nearestSide {Γ : PG} : ∀ (l0 : Int32) (w : PW), EE Γ MW_nearestSide 0 (lv_args 0 [.int l0]) [] w (fW_nearestSide l0 w) := by
  intro l0 w
  unfold fW_nearestSide
  show EE Γ MW_nearestSide 0 [(0, .int l0)] [] w _
  refine ee_iconst (v := (1 : Int32)) dW_nearestSide_0 (by decide) ?_
  refine ee_sipush (v := (2000 : Int32)) dW_nearestSide_1 (by decide) ?_
  refine ee_iload_n 0 dW_nearestSide_4 rfl ?_
  refine ee_mmin dW_nearestSide_5 gw_299 gw_mmins gw_mi gw_mminc ⟨Nat.le_of_ble_eq_true rfl, Nat.le_of_ble_eq_true rfl⟩ ?_
  refine ee_mmax dW_nearestSide_8 gw_302 gw_mmaxs gw_mi gw_mmaxc ⟨Nat.le_of_ble_eq_true rfl, Nat.le_of_ble_eq_true rfl⟩ ?_
  exact ee_iret rfl dW_nearestSide_11
def fW_init (l0 : Nat) (l1 : Int32) (l2 : Int32) (w : PW) : PX := p_newO w 7 7 [.null, .null, .null, .null, .null, .int 0, .int 0] fun v5 w5 => p_call (fSettings_init v5 w5) <| p_kV fun w9 => (p_put w9 l0 0 0 (.ref v5)).bind fun w12 => p_newO w12 11 3 [.int 0, .null, .int 0] fun v16 w16 => p_call (fAL_init1 v16 w16) <| p_kV fun w20 => (p_put w20 l0 0 1 (.ref v16)).bind fun w23 => p_newO w23 11 3 [.int 0, .null, .int 0] fun v27 w27 => p_call (fAL_init1 v27 w27) <| p_kV fun w31 => (p_put w31 l0 0 2 (.ref v27)).bind fun w34 => p_newO w34 9 1 [.null] fun v38 w38 => p_call (fWriter_init v38 w38) <| p_kV fun w42 => (p_put w42 l0 0 3 (.ref v38)).bind fun w45 => p_newO w45 2 3 [.int 0, .null, .int 0] fun v49 w49 => p_call (fBytes_init v49 (20000 : Int32) w49) <| p_kV fun w56 => (p_put w56 l0 0 4 (.ref v49)).bind fun w59 => p_newO w59 2 3 [.int 0, .null, .int 0] fun v63 w63 => p_call (fBytes_init v63 (20000 : Int32) w63) <| p_kV fun w70 => (p_put w70 l0 0 5 (.ref v63)).bind fun w73 => p_newO w73 7 7 [.null, .null, .null, .null, .null, .int 0, .int 0] fun v77 w77 => p_call (fSettings_init v77 w77) <| p_kV fun w81 => (p_put w81 l0 0 6 (.ref v77)).bind fun w84 => p_newO w84 1 6 [.null, .null, .null, .int 0, .int 0, .int 0] fun v88 w88 => (p_getR w88 l0 0 5).bind fun v93 => p_call (fBoxReader_init v88 v93 w88) <| p_kV fun w96 => (p_put w96 l0 0 7 (.ref v88)).bind fun w99 => p_newO w99 3 3 [.null, .null, .int 0] fun v103 w103 => (p_getR w103 l0 0 5).bind fun v108 => (p_getR w103 l0 0 6).bind fun v112 => p_call (fHeadReader_init v103 v108 v112 w103) <| p_kV fun w115 => (p_put w115 l0 0 8 (.ref v103)).bind fun w118 => p_newO w118 6 13 [.null, .null, .null, .null, .null, .null, .null, .null, .null, .null, .null, .int 0, .int 0] fun v122 w122 => (p_getR w122 l0 0 5).bind fun v127 => (p_getR w122 l0 0 6).bind fun v131 => (p_getR w122 l0 0 8).bind fun v135 => p_call (fPartReader_init v122 v127 v131 v135 w122) <| p_kV fun w138 => (p_put w138 l0 0 9 (.ref v122)).bind fun w141 => if ¬ ((0 : Int32) = 0 ∨ (0 : Int32) = 1) then none else (p_put w141 l0 0 10 (.int (0 : Int32))).bind fun w146 => (p_getR w146 l0 0 0).bind fun v150 => p_call (fW_nearestSide l1 w146) <| p_kI fun v154 w154 => p_call (fW_nearestSide l2 w154) <| p_kI fun v158 w158 => (p_obj w158 v150 7).bind fun _ => p_call (fSettings_restart v150 v154 v158 w158) <| p_kV fun w161 => some (.inl none, w161)
set_option maxRecDepth 20000 in
set_option maxHeartbeats 2000000 in
theorem t_fW_init {Γ : PG} : ∀ (l0 : Nat) (l1 : Int32) (l2 : Int32) (w : PW), EE Γ MW_init 0 (lv_args 0 [.ref l0, .int l1, .int l2]) [] w (fW_init l0 l1 l2 w) := by
  intro l0 l1 l2 w
  unfold fW_init
  show EE Γ MW_init 0 [(0, .ref l0), (1, .int l1), (2, .int l2)] [] w _
  refine ee_aload_n 0 dW_init_0 rfl ?_
  refine ee_objInit dW_init_1 gw_85 gw_obji gw_objc ⟨Nat.le_of_ble_eq_true rfl, Nat.le_of_ble_eq_true rfl⟩ ?_
  refine ee_aload_n 0 dW_init_4 rfl ?_
  refine ee_new dW_init_5 lnW_7 (fun v5 w5 _ _ => ?_)
  refine ee_dup dW_init_8 rfl ?_
  refine ee_callIN (as := []) (st := [.ref v5, .ref l0]) dW_init_9 (t_fSettings_init v5 w5) my_fSettings_init.1 (Nat.le_of_ble_eq_true rfl) my_fSettings_init.2 rfl rfl rfl gw_90 gw_91 ⟨Nat.le_of_ble_eq_true rfl, Nat.le_of_ble_eq_true rfl⟩ (Nat.le_of_ble_eq_true rfl) (fun rv9 w9 _ => ?_)
  refine ee_kV ?_
  refine ee_put dW_init_12 lpiW_10 (ee_nR _ _) (fun w12 _ => ?_)
  refine ee_aload_n 0 dW_init_15 rfl ?_
  refine ee_new dW_init_16 lnW_16 (fun v16 w16 _ _ => ?_)
  refine ee_dup dW_init_19 rfl ?_
  refine ee_callI (as := []) (st := [.ref v16, .ref l0]) dW_init_20 (t_fAL_init1 v16 w16) my_fAL_init1.1 (Nat.le_of_ble_eq_true rfl) my_fAL_init1.2 rfl rfl rfl gw_128 gw_129 ⟨Nat.le_of_ble_eq_true rfl, Nat.le_of_ble_eq_true rfl⟩ (Nat.le_of_ble_eq_true rfl) (fun rv20 w20 _ => ?_)
  refine ee_kV ?_
  refine ee_put dW_init_23 lpiW_19 (ee_nR _ _) (fun w23 _ => ?_)
  refine ee_aload_n 0 dW_init_26 rfl ?_
  refine ee_new dW_init_27 lnW_16 (fun v27 w27 _ _ => ?_)
  refine ee_dup dW_init_30 rfl ?_
  refine ee_callI (as := []) (st := [.ref v27, .ref l0]) dW_init_31 (t_fAL_init1 v27 w27) my_fAL_init1.1 (Nat.le_of_ble_eq_true rfl) my_fAL_init1.2 rfl rfl rfl gw_128 gw_129 ⟨Nat.le_of_ble_eq_true rfl, Nat.le_of_ble_eq_true rfl⟩ (Nat.le_of_ble_eq_true rfl) (fun rv31 w31 _ => ?_)
  refine ee_kV ?_
  refine ee_put dW_init_34 lpiW_23 (ee_nR _ _) (fun w34 _ => ?_)
  refine ee_aload_n 0 dW_init_37 rfl ?_
  refine ee_new dW_init_38 lnW_26 (fun v38 w38 _ _ => ?_)
  refine ee_dup dW_init_41 rfl ?_
  refine ee_callIN (as := []) (st := [.ref v38, .ref l0]) dW_init_42 (t_fWriter_init v38 w38) my_fWriter_init.1 (Nat.le_of_ble_eq_true rfl) my_fWriter_init.2 rfl rfl rfl gw_154 gw_155 ⟨Nat.le_of_ble_eq_true rfl, Nat.le_of_ble_eq_true rfl⟩ (Nat.le_of_ble_eq_true rfl) (fun rv42 w42 _ => ?_)
  refine ee_kV ?_
  refine ee_put dW_init_45 lpiW_29 (ee_nR _ _) (fun w45 _ => ?_)
  refine ee_aload_n 0 dW_init_48 rfl ?_
  refine ee_new dW_init_49 lnW_33 (fun v49 w49 _ _ => ?_)
  refine ee_dup dW_init_52 rfl ?_
  refine ee_sipush (v := (20000 : Int32)) dW_init_53 (by decide) ?_
  refine ee_callI (as := [.int (20000 : Int32)]) (st := [.ref v49, .ref l0]) dW_init_56 (t_fBytes_init v49 (20000 : Int32) w49) my_fBytes_init.1 (Nat.le_of_ble_eq_true rfl) my_fBytes_init.2 rfl rfl rfl gw_184 gw_161 ⟨Nat.le_of_ble_eq_true rfl, Nat.le_of_ble_eq_true rfl⟩ (Nat.le_of_ble_eq_true rfl) (fun rv56 w56 _ => ?_)
  refine ee_kV ?_
  refine ee_put dW_init_59 lpiW_38 (ee_nR _ _) (fun w59 _ => ?_)
  refine ee_aload_n 0 dW_init_62 rfl ?_
  refine ee_new dW_init_63 lnW_33 (fun v63 w63 _ _ => ?_)
  refine ee_dup dW_init_66 rfl ?_
  refine ee_sipush (v := (20000 : Int32)) dW_init_67 (by decide) ?_
  refine ee_callI (as := [.int (20000 : Int32)]) (st := [.ref v63, .ref l0]) dW_init_70 (t_fBytes_init v63 (20000 : Int32) w63) my_fBytes_init.1 (Nat.le_of_ble_eq_true rfl) my_fBytes_init.2 rfl rfl rfl gw_184 gw_161 ⟨Nat.le_of_ble_eq_true rfl, Nat.le_of_ble_eq_true rfl⟩ (Nat.le_of_ble_eq_true rfl) (fun rv70 w70 _ => ?_)
  refine ee_kV ?_
  refine ee_put dW_init_73 lpiW_42 (ee_nR _ _) (fun w73 _ => ?_)
  refine ee_aload_n 0 dW_init_76 rfl ?_
  refine ee_new dW_init_77 lnW_7 (fun v77 w77 _ _ => ?_)
  refine ee_dup dW_init_80 rfl ?_
  refine ee_callIN (as := []) (st := [.ref v77, .ref l0]) dW_init_81 (t_fSettings_init v77 w77) my_fSettings_init.1 (Nat.le_of_ble_eq_true rfl) my_fSettings_init.2 rfl rfl rfl gw_90 gw_91 ⟨Nat.le_of_ble_eq_true rfl, Nat.le_of_ble_eq_true rfl⟩ (Nat.le_of_ble_eq_true rfl) (fun rv81 w81 _ => ?_)
  refine ee_kV ?_
  refine ee_put dW_init_84 lpiW_45 (ee_nR _ _) (fun w84 _ => ?_)
  refine ee_aload_n 0 dW_init_87 rfl ?_
  refine ee_new dW_init_88 lnW_48 (fun v88 w88 _ _ => ?_)
  refine ee_dup dW_init_91 rfl ?_
  refine ee_aload_n 0 dW_init_92 rfl ?_
  refine ee_getR dW_init_93 lfW_42 (fun v93 _ => ?_)
  refine ee_callI (as := [.ref v93]) (st := [.ref v88, .ref l0]) dW_init_96 (t_fBoxReader_init v88 v93 w88) my_fBoxReader_init.1 (Nat.le_of_ble_eq_true rfl) my_fBoxReader_init.2 rfl rfl rfl gw_187 gw_188 ⟨Nat.le_of_ble_eq_true rfl, Nat.le_of_ble_eq_true rfl⟩ (Nat.le_of_ble_eq_true rfl) (fun rv96 w96 _ => ?_)
  refine ee_kV ?_
  refine ee_put dW_init_99 lpiW_53 (ee_nR _ _) (fun w99 _ => ?_)
  refine ee_aload_n 0 dW_init_102 rfl ?_
  refine ee_new dW_init_103 lnW_57 (fun v103 w103 _ _ => ?_)
  refine ee_dup dW_init_106 rfl ?_
  refine ee_aload_n 0 dW_init_107 rfl ?_
  refine ee_getR dW_init_108 lfW_42 (fun v108 _ => ?_)
  refine ee_aload_n 0 dW_init_111 rfl ?_
  refine ee_getR dW_init_112 lfW_45 (fun v112 _ => ?_)
  refine ee_callI (as := [.ref v108, .ref v112]) (st := [.ref v103, .ref l0]) dW_init_115 (t_fHeadReader_init v103 v108 v112 w103) my_fHeadReader_init.1 (Nat.le_of_ble_eq_true rfl) my_fHeadReader_init.2 rfl rfl rfl gw_232 gw_233 ⟨Nat.le_of_ble_eq_true rfl, Nat.le_of_ble_eq_true rfl⟩ (Nat.le_of_ble_eq_true rfl) (fun rv115 w115 _ => ?_)
  refine ee_kV ?_
  refine ee_put dW_init_118 lpiW_62 (ee_nR _ _) (fun w118 _ => ?_)
  refine ee_aload_n 0 dW_init_121 rfl ?_
  refine ee_new dW_init_122 lnW_66 (fun v122 w122 _ _ => ?_)
  refine ee_dup dW_init_125 rfl ?_
  refine ee_aload_n 0 dW_init_126 rfl ?_
  refine ee_getR dW_init_127 lfW_42 (fun v127 _ => ?_)
  refine ee_aload_n 0 dW_init_130 rfl ?_
  refine ee_getR dW_init_131 lfW_45 (fun v131 _ => ?_)
  refine ee_aload_n 0 dW_init_134 rfl ?_
  refine ee_getR dW_init_135 lfW_62 (fun v135 _ => ?_)
  refine ee_callI (as := [.ref v127, .ref v131, .ref v135]) (st := [.ref v122, .ref l0]) dW_init_138 (t_fPartReader_init v122 v127 v131 v135 w122) my_fPartReader_init.1 (Nat.le_of_ble_eq_true rfl) my_fPartReader_init.2 rfl rfl rfl gw_249 gw_250 ⟨Nat.le_of_ble_eq_true rfl, Nat.le_of_ble_eq_true rfl⟩ (Nat.le_of_ble_eq_true rfl) (fun rv138 w138 _ => ?_)
  refine ee_kV ?_
  refine ee_put dW_init_141 lpiW_71 (ee_nR _ _) (fun w141 _ => ?_)
  refine ee_aload_n 0 dW_init_144 rfl ?_
  refine ee_iconst (v := (0 : Int32)) dW_init_145 (by decide) ?_
  refine ee_ite (fun _ => ee_none) (fun hz146 => ?_)
  refine ee_put dW_init_146 lpiW_75 (ee_nZ _ (Classical.byContradiction hz146)) (fun w146 _ => ?_)
  refine ee_aload_n 0 dW_init_149 rfl ?_
  refine ee_getR dW_init_150 lfW_10 (fun v150 _ => ?_)
  refine ee_iload_n 1 dW_init_153 rfl ?_
  refine ee_callS (as := [.int l1]) (st := [.ref v150]) dW_init_154 (t_fW_nearestSide l1 w146) my_fW_nearestSide.1 (Nat.le_of_ble_eq_true rfl) my_fW_nearestSide.2 rfl gw_296 gw_297 ⟨Nat.le_of_ble_eq_true rfl, Nat.le_of_ble_eq_true rfl⟩ (Nat.le_of_ble_eq_true rfl) (fun rv154 w154 _ => ?_)
  refine ee_kI (fun v154 => ?_)
  refine ee_iload_n 2 dW_init_157 rfl ?_
  refine ee_callS (as := [.int l2]) (st := [.int v154, .ref v150]) dW_init_158 (t_fW_nearestSide l2 w154) my_fW_nearestSide.1 (Nat.le_of_ble_eq_true rfl) my_fW_nearestSide.2 rfl gw_296 gw_297 ⟨Nat.le_of_ble_eq_true rfl, Nat.le_of_ble_eq_true rfl⟩ (Nat.le_of_ble_eq_true rfl) (fun rv158 w158 _ => ?_)
  refine ee_kI (fun v158 => ?_)
  refine ee_bind (fun _ ho161 => ?_)
  refine ee_callV (as := [.int v154, .int v158]) (st := []) dW_init_161 (t_fSettings_restart v150 v154 v158 w158) my_fSettings_restart.1 (Nat.le_of_ble_eq_true rfl) my_fSettings_restart.2 rfl cf_7.1 rfl (p_obj_eq.mp ho161) gw_305 gw_306 gw_307 ⟨Nat.le_of_ble_eq_true rfl, Nat.le_of_ble_eq_true rfl⟩ (Nat.le_of_ble_eq_true rfl) (fun rv161 w161 _ => ?_)
  refine ee_kV ?_
  exact ee_vret rfl dW_init_164
def fW_canBeSet_84 (l4 : Int32) (s0 : Int32) (w : PW) : PX := if l4 = 0 then (p_retZ (0 : Int32) w) else (if s0 = 0 then (p_retZ (0 : Int32) w) else (p_retZ (1 : Int32) w))
set_option maxRecDepth 20000 in
set_option maxHeartbeats 2000000 in
theorem t_fW_canBeSet_84 {Γ : PG} : ∀ (l4 : Int32) (s0 : Int32) (w : PW), EE Γ MW_canBeSet 84 [(4, .int l4)] [.int s0] w (fW_canBeSet_84 l4 s0 w) := by
  intro l4 s0 w
  unfold fW_canBeSet_84
  refine ee_istore (lv2 := [(6, .int s0), (4, .int l4)]) dW_canBeSet_84 (Nat.le_of_ble_eq_true rfl) rfl ?_
  refine ee_iload 1 dW_canBeSet_86 rfl ?_
  refine ee_if_eq (tgt := 100) dW_canBeSet_88 (by decide) (fun h88 => ?_) (fun h88 => ?_)
  · refine ee_iconst (v := (0 : Int32)) dW_canBeSet_100 (by decide) ?_
    exact ee_zret rfl dW_canBeSet_101
  · refine ee_iload 0 dW_canBeSet_91 rfl ?_
    refine ee_if_eq (tgt := 100) dW_canBeSet_93 (by decide) (fun h93 => ?_) (fun h93 => ?_)
    · refine ee_iconst (v := (0 : Int32)) dW_canBeSet_100 (by decide) ?_
      exact ee_zret rfl dW_canBeSet_101
    · refine ee_iconst (v := (1 : Int32)) dW_canBeSet_96 (by decide) ?_
      refine ee_goto (tgt := 101) dW_canBeSet_97 (by decide) ?_
      exact ee_zret rfl dW_canBeSet_101
def fW_canBeSet_56 (l0 : Nat) (l3 : Int32) (l4 : Int32) (s0 : Int32) (w : PW) : PX := if l3 = (-1 : Int32) then (fW_canBeSet_84 l4 (1 : Int32) w) else (if s0 = 0 then (fW_canBeSet_84 l4 (0 : Int32) w) else ((p_getR w l0 0 0).bind fun v69 => (p_obj w v69 7).bind fun _ => p_call (fSettings_isComponent v69 l3 w) <| p_kI fun v73 w73 => if v73 = 0 then (fW_canBeSet_84 l4 (0 : Int32) w73) else (fW_canBeSet_84 l4 (1 : Int32) w73)))
set_option maxRecDepth 20000 in
set_option maxHeartbeats 2000000 in
theorem t_fW_canBeSet_56 {Γ : PG} : ∀ (l0 : Nat) (l3 : Int32) (l4 : Int32) (s0 : Int32) (w : PW), EE Γ MW_canBeSet 56 [(0, .ref l0), (3, .int l3), (4, .int l4)] [.int s0] w (fW_canBeSet_56 l0 l3 l4 s0 w) := by
  intro l0 l3 l4 s0 w
  unfold fW_canBeSet_56
  refine ee_istore (lv2 := [(5, .int s0), (0, .ref l0), (3, .int l3), (4, .int l4)]) dW_canBeSet_56 (Nat.le_of_ble_eq_true rfl) rfl ?_
  refine ee_iload_n 2 dW_canBeSet_58 rfl ?_
  refine ee_iconst (v := (-1 : Int32)) dW_canBeSet_59 (by decide) ?_
  refine ee_icmp_eq (tgt := 79) dW_canBeSet_60 (by decide) (fun h60 => ?_) (fun h60 => ?_)
  · refine ee_iconst (v := (1 : Int32)) dW_canBeSet_79 (by decide) ?_
    refine ee_goto (tgt := 84) dW_canBeSet_80 (by decide) ?_
    refine ee_pick [3] rfl ?_
    exact t_fW_canBeSet_84 _ _ w
  · refine ee_iload 0 dW_canBeSet_63 rfl ?_
    refine ee_if_eq (tgt := 83) dW_canBeSet_65 (by decide) (fun h65 => ?_) (fun h65 => ?_)
    · refine ee_iconst (v := (0 : Int32)) dW_canBeSet_83 (by decide) ?_
      refine ee_pick [3] rfl ?_
      exact t_fW_canBeSet_84 _ _ w
    · refine ee_aload_n 1 dW_canBeSet_68 rfl ?_
      refine ee_getR dW_canBeSet_69 lfW_10 (fun v69 _ => ?_)
      refine ee_iload_n 2 dW_canBeSet_72 rfl ?_
      refine ee_bind (fun _ ho73 => ?_)
      refine ee_callV (as := [.int l3]) (st := []) dW_canBeSet_73 (t_fSettings_isComponent v69 l3 w) my_fSettings_isComponent.1 (Nat.le_of_ble_eq_true rfl) my_fSettings_isComponent.2 rfl cf_7.1 rfl (p_obj_eq.mp ho73) gw_754 gw_657 gw_658 ⟨Nat.le_of_ble_eq_true rfl, Nat.le_of_ble_eq_true rfl⟩ (Nat.le_of_ble_eq_true rfl) (fun rv73 w73 _ => ?_)
      refine ee_kI (fun v73 => ?_)
      refine ee_if_eq (tgt := 83) dW_canBeSet_76 (by decide) (fun h76 => ?_) (fun h76 => ?_)
      · refine ee_iconst (v := (0 : Int32)) dW_canBeSet_83 (by decide) ?_
        refine ee_pick [3] rfl ?_
        exact t_fW_canBeSet_84 _ _ w73
      · refine ee_iconst (v := (1 : Int32)) dW_canBeSet_79 (by decide) ?_
        refine ee_goto (tgt := 84) dW_canBeSet_80 (by decide) ?_
        refine ee_pick [3] rfl ?_
        exact t_fW_canBeSet_84 _ _ w73
def fW_canBeSet_38 (l0 : Nat) (l1 : Int32) (l3 : Int32) (s0 : Int32) (w : PW) : PX := if l1 = (3 : Int32) then (fW_canBeSet_56 l0 l3 s0 (1 : Int32) w) else (if l1 < (6 : Int32) then (fW_canBeSet_56 l0 l3 s0 (0 : Int32) w) else (fW_canBeSet_56 l0 l3 s0 (1 : Int32) w))
set_option maxRecDepth 20000 in
set_option maxHeartbeats 2000000 in
theorem t_fW_canBeSet_38 {Γ : PG} : ∀ (l0 : Nat) (l1 : Int32) (l3 : Int32) (s0 : Int32) (w : PW), EE Γ MW_canBeSet 38 [(0, .ref l0), (1, .int l1), (3, .int l3)] [.int s0] w (fW_canBeSet_38 l0 l1 l3 s0 w) := by
  intro l0 l1 l3 s0 w
  unfold fW_canBeSet_38
  refine ee_istore (lv2 := [(4, .int s0), (0, .ref l0), (1, .int l1), (3, .int l3)]) dW_canBeSet_38 (Nat.le_of_ble_eq_true rfl) rfl ?_
  refine ee_iload_n 2 dW_canBeSet_40 rfl ?_
  refine ee_iconst (v := (3 : Int32)) dW_canBeSet_41 (by decide) ?_
  refine ee_icmp_eq (tgt := 51) dW_canBeSet_42 (by decide) (fun h42 => ?_) (fun h42 => ?_)
  · refine ee_iconst (v := (1 : Int32)) dW_canBeSet_51 (by decide) ?_
    refine ee_goto (tgt := 56) dW_canBeSet_52 (by decide) ?_
    refine ee_pick [1, 3, 0] rfl ?_
    exact t_fW_canBeSet_56 _ _ _ _ w
  · refine ee_iload_n 2 dW_canBeSet_45 rfl ?_
    refine ee_bipush (v := (6 : Int32)) dW_canBeSet_46 (by decide) ?_
    refine ee_icmp_lt (tgt := 55) dW_canBeSet_48 (by decide) (fun h48 => ?_) (fun h48 => ?_)
    · refine ee_iconst (v := (0 : Int32)) dW_canBeSet_55 (by decide) ?_
      refine ee_pick [1, 3, 0] rfl ?_
      exact t_fW_canBeSet_56 _ _ _ _ w
    · refine ee_iconst (v := (1 : Int32)) dW_canBeSet_51 (by decide) ?_
      refine ee_goto (tgt := 56) dW_canBeSet_52 (by decide) ?_
      refine ee_pick [1, 3, 0] rfl ?_
      exact t_fW_canBeSet_56 _ _ _ _ w
def fW_canBeSet (l0 : Nat) (l1 : Int32) (l2 : Int32) (l3 : Int32) (w : PW) : PX := if l1 < 0 then (p_retZ (0 : Int32) w) else (if l1 ≤ (10 : Int32) then (if l2 = (-1 : Int32) then (fW_canBeSet_38 l0 l1 l3 (1 : Int32) w) else (if l1 < (4 : Int32) then (fW_canBeSet_38 l0 l1 l3 (0 : Int32) w) else ((p_getR w l0 0 0).bind fun v23 => (p_obj w v23 7).bind fun _ => p_call (fSettings_isTile v23 l2 w) <| p_kI fun v27 w27 => if v27 = 0 then (fW_canBeSet_38 l0 l1 l3 (0 : Int32) w27) else (fW_canBeSet_38 l0 l1 l3 (1 : Int32) w27)))) else (p_retZ (0 : Int32) w))
set_option maxRecDepth 20000 in
set_option maxHeartbeats 2000000 in
theorem t_fW_canBeSet {Γ : PG} : ∀ (l0 : Nat) (l1 : Int32) (l2 : Int32) (l3 : Int32) (w : PW), EE Γ MW_canBeSet 0 (lv_args 0 [.ref l0, .int l1, .int l2, .int l3]) [] w (fW_canBeSet l0 l1 l2 l3 w) := by
  intro l0 l1 l2 l3 w
  unfold fW_canBeSet
  show EE Γ MW_canBeSet 0 [(0, .ref l0), (1, .int l1), (2, .int l2), (3, .int l3)] [] w _
  refine ee_iload_n 1 dW_canBeSet_0 rfl ?_
  refine ee_if_lt (tgt := 10) dW_canBeSet_1 (by decide) (fun h1 => ?_) (fun h1 => ?_)
  · refine ee_iconst (v := (0 : Int32)) dW_canBeSet_10 (by decide) ?_
    exact ee_zret rfl dW_canBeSet_11
  · refine ee_iload_n 1 dW_canBeSet_4 rfl ?_
    refine ee_bipush (v := (10 : Int32)) dW_canBeSet_5 (by decide) ?_
    refine ee_icmp_le (tgt := 12) dW_canBeSet_7 (by decide) (fun h7 => ?_) (fun h7 => ?_)
    · refine ee_iload_n 2 dW_canBeSet_12 rfl ?_
      refine ee_iconst (v := (-1 : Int32)) dW_canBeSet_13 (by decide) ?_
      refine ee_icmp_eq (tgt := 33) dW_canBeSet_14 (by decide) (fun h14 => ?_) (fun h14 => ?_)
      · refine ee_iconst (v := (1 : Int32)) dW_canBeSet_33 (by decide) ?_
        refine ee_goto (tgt := 38) dW_canBeSet_34 (by decide) ?_
        refine ee_pick [0, 1, 3] rfl ?_
        exact t_fW_canBeSet_38 _ _ _ _ w
      · refine ee_iload_n 1 dW_canBeSet_17 rfl ?_
        refine ee_iconst (v := (4 : Int32)) dW_canBeSet_18 (by decide) ?_
        refine ee_icmp_lt (tgt := 37) dW_canBeSet_19 (by decide) (fun h19 => ?_) (fun h19 => ?_)
        · refine ee_iconst (v := (0 : Int32)) dW_canBeSet_37 (by decide) ?_
          refine ee_pick [0, 1, 3] rfl ?_
          exact t_fW_canBeSet_38 _ _ _ _ w
        · refine ee_aload_n 0 dW_canBeSet_22 rfl ?_
          refine ee_getR dW_canBeSet_23 lfW_10 (fun v23 _ => ?_)
          refine ee_iload_n 2 dW_canBeSet_26 rfl ?_
          refine ee_bind (fun _ ho27 => ?_)
          refine ee_callV (as := [.int l2]) (st := []) dW_canBeSet_27 (t_fSettings_isTile v23 l2 w) my_fSettings_isTile.1 (Nat.le_of_ble_eq_true rfl) my_fSettings_isTile.2 rfl cf_7.1 rfl (p_obj_eq.mp ho27) gw_753 gw_681 gw_682 ⟨Nat.le_of_ble_eq_true rfl, Nat.le_of_ble_eq_true rfl⟩ (Nat.le_of_ble_eq_true rfl) (fun rv27 w27 _ => ?_)
          refine ee_kI (fun v27 => ?_)
          refine ee_if_eq (tgt := 37) dW_canBeSet_30 (by decide) (fun h30 => ?_) (fun h30 => ?_)
          · refine ee_iconst (v := (0 : Int32)) dW_canBeSet_37 (by decide) ?_
            refine ee_pick [0, 1, 3] rfl ?_
            exact t_fW_canBeSet_38 _ _ _ _ w27
          · refine ee_iconst (v := (1 : Int32)) dW_canBeSet_33 (by decide) ?_
            refine ee_goto (tgt := 38) dW_canBeSet_34 (by decide) ?_
            refine ee_pick [0, 1, 3] rfl ?_
            exact t_fW_canBeSet_38 _ _ _ _ w27
    · refine ee_iconst (v := (0 : Int32)) dW_canBeSet_10 (by decide) ?_
      exact ee_zret rfl dW_canBeSet_11
def fAL_isEmpty (l0 : Nat) (w : PW) : PX := (p_getI w l0 11 2).bind fun v1 => if ¬ v1 = 0 then (p_retZ (0 : Int32) w) else (p_retZ (1 : Int32) w)
set_option maxRecDepth 20000 in
set_option maxHeartbeats 2000000 in
theorem t_fAL_isEmpty {Γ : PG} : ∀ (l0 : Nat) (w : PW), EE Γ MAL_isEmpty 0 (lv_args 0 [.ref l0]) [] w (fAL_isEmpty l0 w) := by
  intro l0 w
  unfold fAL_isEmpty
  show EE Γ MAL_isEmpty 0 [(0, .ref l0)] [] w _
  refine ee_aload_n 0 dAL_isEmpty_0 rfl ?_
  refine ee_getI dAL_isEmpty_1 lfAL_48 (fun v1 _ => ?_)
  refine ee_if_ne (tgt := 11) dAL_isEmpty_4 (by decide) (fun h4 => ?_) (fun h4 => ?_)
  · refine ee_iconst (v := (0 : Int32)) dAL_isEmpty_11 (by decide) ?_
    exact ee_zret rfl dAL_isEmpty_12
  · refine ee_iconst (v := (1 : Int32)) dAL_isEmpty_7 (by decide) ?_
    refine ee_goto (tgt := 12) dAL_isEmpty_8 (by decide) ?_
    exact ee_zret rfl dAL_isEmpty_12
def fW_set_55 (l0 : Nat) (l1 : Int32) (l2 : Int32) (l3 : Int32) (l4 : Int32) (w : PW) : PX := (p_getR w l0 0 0).bind fun v56 => (p_obj w v56 7).bind fun _ => p_call (fSettings_allows v56 l1 l4 w) <| p_kI fun v62 w62 => if ¬ v62 = 0 then ((p_getR w62 l0 0 0).bind fun v79 => (p_obj w62 v79 7).bind fun _ => p_call (fSettings_valueOf v79 l1 l2 l3 w62) <| p_kI fun v85 w85 => (p_getR w85 l0 0 0).bind fun v91 => (p_obj w85 v91 7).bind fun _ => p_call (fSettings_change v91 l1 l2 l3 l4 w85) <| p_kV fun w99 => some (.inl (some (.int v85)), w99)) else (p_throw "java/lang/IllegalArgumentException" w62)
set_option maxRecDepth 20000 in
set_option maxHeartbeats 2000000 in
theorem t_fW_set_55 {Γ : PG} : ∀ (l0 : Nat) (l1 : Int32) (l2 : Int32) (l3 : Int32) (l4 : Int32) (w : PW), EE Γ MW_set 55 [(0, .ref l0), (1, .int l1), (2, .int l2), (3, .int l3), (4, .int l4)] [] w (fW_set_55 l0 l1 l2 l3 l4 w) := by
  intro l0 l1 l2 l3 l4 w
  unfold fW_set_55
  refine ee_aload_n 0 dW_set_55 rfl ?_
  refine ee_getR dW_set_56 lfW_10 (fun v56 _ => ?_)
  refine ee_iload_n 1 dW_set_59 rfl ?_
  refine ee_iload 4 dW_set_60 rfl ?_
  refine ee_bind (fun _ ho62 => ?_)
  refine ee_callV (as := [.int l1, .int l4]) (st := []) dW_set_62 (t_fSettings_allows v56 l1 l4 w) my_fSettings_allows.1 (Nat.le_of_ble_eq_true rfl) my_fSettings_allows.2 rfl cf_7.1 rfl (p_obj_eq.mp ho62) gw_847 gw_848 gw_849 ⟨Nat.le_of_ble_eq_true rfl, Nat.le_of_ble_eq_true rfl⟩ (Nat.le_of_ble_eq_true rfl) (fun rv62 w62 _ => ?_)
  refine ee_kI (fun v62 => ?_)
  refine ee_if_ne (tgt := 78) dW_set_65 (by decide) (fun h65 => ?_) (fun h65 => ?_)
  · refine ee_aload_n 0 dW_set_78 rfl ?_
    refine ee_getR dW_set_79 lfW_10 (fun v79 _ => ?_)
    refine ee_iload_n 1 dW_set_82 rfl ?_
    refine ee_iload_n 2 dW_set_83 rfl ?_
    refine ee_iload_n 3 dW_set_84 rfl ?_
    refine ee_bind (fun _ ho85 => ?_)
    refine ee_callV (as := [.int l1, .int l2, .int l3]) (st := []) dW_set_85 (t_fSettings_valueOf v79 l1 l2 l3 w62) my_fSettings_valueOf.1 (Nat.le_of_ble_eq_true rfl) my_fSettings_valueOf.2 rfl cf_7.1 rfl (p_obj_eq.mp ho85) gw_868 gw_417 gw_418 ⟨Nat.le_of_ble_eq_true rfl, Nat.le_of_ble_eq_true rfl⟩ (Nat.le_of_ble_eq_true rfl) (fun rv85 w85 _ => ?_)
    refine ee_kI (fun v85 => ?_)
    refine ee_istore (lv2 := [(5, .int v85), (0, .ref l0), (1, .int l1), (2, .int l2), (3, .int l3), (4, .int l4)]) dW_set_88 (Nat.le_of_ble_eq_true rfl) rfl ?_
    refine ee_aload_n 1 dW_set_90 rfl ?_
    refine ee_getR dW_set_91 lfW_10 (fun v91 _ => ?_)
    refine ee_iload_n 2 dW_set_94 rfl ?_
    refine ee_iload_n 3 dW_set_95 rfl ?_
    refine ee_iload_n 4 dW_set_96 rfl ?_
    refine ee_iload 5 dW_set_97 rfl ?_
    refine ee_bind (fun _ ho99 => ?_)
    refine ee_callV (as := [.int l1, .int l2, .int l3, .int l4]) (st := []) dW_set_99 (t_fSettings_change v91 l1 l2 l3 l4 w85) my_fSettings_change.1 (Nat.le_of_ble_eq_true rfl) my_fSettings_change.2 rfl cf_7.1 rfl (p_obj_eq.mp ho99) gw_869 gw_870 gw_871 ⟨Nat.le_of_ble_eq_true rfl, Nat.le_of_ble_eq_true rfl⟩ (Nat.le_of_ble_eq_true rfl) (fun rv99 w99 _ => ?_)
    refine ee_kV ?_
    refine ee_iload 0 dW_set_102 rfl ?_
    exact ee_iret rfl dW_set_104
  · exact ee_throw (text := "beyond the bounds of the setting") (names := ["java/lang/RuntimeException", "java/lang/Exception"]) (L4 := 6) (Or.inl rfl) dW_set_68 dW_set_71 (fun _ _ _ _ _ _ _ _ _ _ _ _ _ _ _ _ hx hb ho hz k => va_ldcS hx hb ho hz dW_set_72 k) dW_set_74 dW_set_77 (by decide) (by decide) gw_852 gw_71 oa_118 rfl (by decide +kernel) ⟨Nat.le_of_ble_eq_true rfl, Nat.le_of_ble_eq_true rfl⟩
def fW_set_45 (w : PW) : PX := p_throw "java/lang/IllegalStateException" w
set_option maxRecDepth 20000 in
set_option maxHeartbeats 2000000 in
theorem t_fW_set_45 {Γ : PG} : ∀ (w : PW), EE Γ MW_set 45 [] [] w (fW_set_45 w) := by
  intro w
  unfold fW_set_45
  exact ee_throw (text := "the sizes are fixed") (names := ["java/lang/RuntimeException", "java/lang/Exception"]) (L4 := 6) (Or.inl rfl) dW_set_45 dW_set_48 (fun _ _ _ _ _ _ _ _ _ _ _ _ _ _ _ _ hx hb ho hz k => va_ldcS hx hb ho hz dW_set_49 k) dW_set_51 dW_set_54 (by decide) (by decide) gw_831 gw_70 oa_109 rfl (by decide +kernel) ⟨Nat.le_of_ble_eq_true rfl, Nat.le_of_ble_eq_true rfl⟩
def fW_set (l0 : Nat) (l1 : Int32) (l2 : Int32) (l3 : Int32) (l4 : Int32) (w : PW) : PX := (p_obj w l0 0).bind fun _ => p_call (fW_canBeSet l0 l1 l2 l3 w) <| p_kI fun v4 w4 => if ¬ v4 = 0 then (if (2 : Int32) < l1 then (fW_set_55 l0 l1 l2 l3 l4 w4) else ((p_getR w4 l0 0 1).bind fun v26 => (p_obj w4 v26 11).bind fun _ => p_call (fAL_isEmpty v26 w4) <| p_kI fun v29 w29 => if v29 = 0 then (fW_set_45 w29) else ((p_getR w29 l0 0 0).bind fun v36 => (p_obj w29 v36 7).bind fun _ => p_call (fSettings_hasSegmentNotForAll v36 w29) <| p_kI fun v39 w39 => if v39 = 0 then (fW_set_55 l0 l1 l2 l3 l4 w39) else (fW_set_45 w39)))) else (p_throw "java/lang/IndexOutOfBoundsException" w4)
set_option maxRecDepth 20000 in
set_option maxHeartbeats 2000000 in
theorem t_fW_set {Γ : PG} : ∀ (l0 : Nat) (l1 : Int32) (l2 : Int32) (l3 : Int32) (l4 : Int32) (w : PW), EE Γ MW_set 0 (lv_args 0 [.ref l0, .int l1, .int l2, .int l3, .int l4]) [] w (fW_set l0 l1 l2 l3 l4 w) := by
  intro l0 l1 l2 l3 l4 w
  unfold fW_set
  show EE Γ MW_set 0 [(0, .ref l0), (1, .int l1), (2, .int l2), (3, .int l3), (4, .int l4)] [] w _
  refine ee_aload_n 0 dW_set_0 rfl ?_
  refine ee_iload_n 1 dW_set_1 rfl ?_
  refine ee_iload_n 2 dW_set_2 rfl ?_
  refine ee_iload_n 3 dW_set_3 rfl ?_
  refine ee_bind (fun _ ho4 => ?_)
  refine ee_callV (as := [.int l1, .int l2, .int l3]) (st := []) dW_set_4 (t_fW_canBeSet l0 l1 l2 l3 w) my_fW_canBeSet.1 (Nat.le_of_ble_eq_true rfl) my_fW_canBeSet.2 rfl cf_0.1 rfl (p_obj_eq.mp ho4) gw_749 gw_751 gw_1 ⟨Nat.le_of_ble_eq_true rfl, Nat.le_of_ble_eq_true rfl⟩ (Nat.le_of_ble_eq_true rfl) (fun rv4 w4 _ => ?_)
  refine ee_kI (fun v4 => ?_)
  refine ee_if_ne (tgt := 20) dW_set_7 (by decide) (fun h7 => ?_) (fun h7 => ?_)
  · refine ee_iload_n 1 dW_set_20 rfl ?_
    refine ee_iconst (v := (2 : Int32)) dW_set_21 (by decide) ?_
    refine ee_icmp_gt (tgt := 55) dW_set_22 (by decide) (fun h22 => ?_) (fun h22 => ?_)
    · exact t_fW_set_55 _ _ _ _ _ w4
    · refine ee_aload_n 0 dW_set_25 rfl ?_
      refine ee_getR dW_set_26 lfW_19 (fun v26 _ => ?_)
      refine ee_bind (fun _ ho29 => ?_)
      refine ee_callV (as := []) (st := []) dW_set_29 (t_fAL_isEmpty v26 w4) my_fAL_isEmpty.1 (Nat.le_of_ble_eq_true rfl) my_fAL_isEmpty.2 rfl cf_11.1 rfl (p_obj_eq.mp ho29) gw_823 gw_824 gw_825 ⟨Nat.le_of_ble_eq_true rfl, Nat.le_of_ble_eq_true rfl⟩ (Nat.le_of_ble_eq_true rfl) (fun rv29 w29 _ => ?_)
      refine ee_kI (fun v29 => ?_)
      refine ee_if_eq (tgt := 45) dW_set_32 (by decide) (fun h32 => ?_) (fun h32 => ?_)
      · refine ee_pick [] rfl ?_
        exact t_fW_set_45 w29
      · refine ee_aload_n 0 dW_set_35 rfl ?_
        refine ee_getR dW_set_36 lfW_10 (fun v36 _ => ?_)
        refine ee_bind (fun _ ho39 => ?_)
        refine ee_callV (as := []) (st := []) dW_set_39 (t_fSettings_hasSegmentNotForAll v36 w29) my_fSettings_hasSegmentNotForAll.1 (Nat.le_of_ble_eq_true rfl) my_fSettings_hasSegmentNotForAll.2 rfl cf_7.1 rfl (p_obj_eq.mp ho39) gw_827 gw_828 gw_829 ⟨Nat.le_of_ble_eq_true rfl, Nat.le_of_ble_eq_true rfl⟩ (Nat.le_of_ble_eq_true rfl) (fun rv39 w39 _ => ?_)
        refine ee_kI (fun v39 => ?_)
        refine ee_if_eq (tgt := 55) dW_set_42 (by decide) (fun h42 => ?_) (fun h42 => ?_)
        · exact t_fW_set_55 _ _ _ _ _ w39
        · refine ee_pick [] rfl ?_
          exact t_fW_set_45 w39
  · exact ee_throw (text := "no such setting there") (names := ["java/lang/RuntimeException", "java/lang/Exception"]) (L4 := 6) (Or.inl rfl) dW_set_10 dW_set_13 (fun _ _ _ _ _ _ _ _ _ _ _ _ _ _ _ _ hx hb ho hz k => va_ldcS hx hb ho hz dW_set_14 k) dW_set_16 dW_set_19 (by decide) (by decide) gw_755 gw_69 oa_95 rfl (by decide +kernel) ⟨Nat.le_of_ble_eq_true rfl, Nat.le_of_ble_eq_true rfl⟩
