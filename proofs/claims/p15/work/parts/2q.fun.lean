def fD_isSegment (l0 : Int32) (w : PW) : PX := if l0 = (82 : Int32) then (p_retZ (1 : Int32) w) else (if l0 = (83 : Int32) then (p_retZ (1 : Int32) w) else (if l0 = (92 : Int32) then (p_retZ (1 : Int32) w) else (if ¬ l0 = (93 : Int32) then (p_retZ (0 : Int32) w) else (p_retZ (1 : Int32) w))))
set_option maxRecDepth 20000 in
set_option maxHeartbeats 2000000 in
theorem t_fD_isSegment {Γ : PG} : ∀ (l0 : Int32) (w : PW), EE Γ MD_isSegment 0 (lv_args 0 [.int l0]) [] w (fD_isSegment l0 w) := by
  intro l0 w
  unfold fD_isSegment
  show EE Γ MD_isSegment 0 [(0, .int l0)] [] w _
  refine ee_iload_n 0 dD_isSegment_0 rfl ?_
  refine ee_bipush (v := (82 : Int32)) dD_isSegment_1 (by decide) ?_
  refine ee_icmp_eq (tgt := 24) dD_isSegment_3 (by decide) (fun h3 => ?_) (fun h3 => ?_)
  · refine ee_iconst (v := (1 : Int32)) dD_isSegment_24 (by decide) ?_
    refine ee_goto (tgt := 29) dD_isSegment_25 (by decide) ?_
    exact ee_zret rfl dD_isSegment_29
  · refine ee_iload_n 0 dD_isSegment_6 rfl ?_
    refine ee_bipush (v := (83 : Int32)) dD_isSegment_7 (by decide) ?_
    refine ee_icmp_eq (tgt := 24) dD_isSegment_9 (by decide) (fun h9 => ?_) (fun h9 => ?_)
    · refine ee_iconst (v := (1 : Int32)) dD_isSegment_24 (by decide) ?_
      refine ee_goto (tgt := 29) dD_isSegment_25 (by decide) ?_
      exact ee_zret rfl dD_isSegment_29
    · refine ee_iload_n 0 dD_isSegment_12 rfl ?_
      refine ee_bipush (v := (92 : Int32)) dD_isSegment_13 (by decide) ?_
      refine ee_icmp_eq (tgt := 24) dD_isSegment_15 (by decide) (fun h15 => ?_) (fun h15 => ?_)
      · refine ee_iconst (v := (1 : Int32)) dD_isSegment_24 (by decide) ?_
        refine ee_goto (tgt := 29) dD_isSegment_25 (by decide) ?_
        exact ee_zret rfl dD_isSegment_29
      · refine ee_iload_n 0 dD_isSegment_18 rfl ?_
        refine ee_bipush (v := (93 : Int32)) dD_isSegment_19 (by decide) ?_
        refine ee_icmp_ne (tgt := 28) dD_isSegment_21 (by decide) (fun h21 => ?_) (fun h21 => ?_)
        · refine ee_iconst (v := (0 : Int32)) dD_isSegment_28 (by decide) ?_
          exact ee_zret rfl dD_isSegment_29
        · refine ee_iconst (v := (1 : Int32)) dD_isSegment_24 (by decide) ?_
          refine ee_goto (tgt := 29) dD_isSegment_25 (by decide) ?_
          exact ee_zret rfl dD_isSegment_29
def fD_takeStep (l0 : Nat) (l1 : Int32) (l2 : Int32) (w : PW) : PX := (p_obj w l0 10).bind fun _ => p_call (fD_two l0 (l1 + (1 : Int32)) w) <| p_kI fun v4 w4 => (p_getR w4 l0 10 23).bind fun v9 => (p_ald w4 v9 0 l1).bind fun v13 => (p_irem v13 (32 : Int32)).bind fun v16 => if ¬ v16 = (1 : Int32) then (p_retZ (0 : Int32) w4) else ((p_irem v4 (2048 : Int32)).bind fun v25 => if v25 = 0 then ((p_getR w4 l0 10 23).bind fun v36 => (p_ald w4 v36 0 l1).bind fun v40 => (p_idiv v40 (32 : Int32)).bind fun v43 => (p_obj w4 l0 10).bind fun _ => p_call (fD_put l0 l2 (10 : Int32) v43 w4) <| p_kV fun w44 => (p_idiv v4 (2048 : Int32)).bind fun v55 => (p_obj w44 l0 10).bind fun _ => p_call (fD_put l0 l2 (9 : Int32) v55 w44) <| p_kV fun w56 => (p_getR w56 l0 10 5).bind fun v60 => (p_ast w56 v60 2 l2 (vp_nar .boolean (1 : Int32))).bind fun w65 => p_retZ (1 : Int32) w65) else (p_retZ (0 : Int32) w4))
set_option maxRecDepth 20000 in
set_option maxHeartbeats 2000000 in
theorem t_fD_takeStep {Γ : PG} : ∀ (l0 : Nat) (l1 : Int32) (l2 : Int32) (w : PW), EE Γ MD_takeStep 0 (lv_args 0 [.ref l0, .int l1, .int l2]) [] w (fD_takeStep l0 l1 l2 w) := by
  intro l0 l1 l2 w
  unfold fD_takeStep
  show EE Γ MD_takeStep 0 [(0, .ref l0), (1, .int l1), (2, .int l2)] [] w _
  refine ee_aload_n 0 dD_takeStep_0 rfl ?_
  refine ee_iload_n 1 dD_takeStep_1 rfl ?_
  refine ee_iconst (v := (1 : Int32)) dD_takeStep_2 (by decide) ?_
  refine ee_iadd dD_takeStep_3 ?_
  refine ee_bind (fun _ ho4 => ?_)
  refine ee_callV (as := [.int (l1 + (1 : Int32))]) (st := []) dD_takeStep_4 (t_fD_two l0 (l1 + (1 : Int32)) w) my_fD_two.1 (Nat.le_of_ble_eq_true rfl) my_fD_two.2 rfl cf_10.1 rfl (p_obj_eq.mp ho4) gw_1540 gw_1542 gw_42 ⟨Nat.le_of_ble_eq_true rfl, Nat.le_of_ble_eq_true rfl⟩ (Nat.le_of_ble_eq_true rfl) (fun rv4 w4 _ => ?_)
  refine ee_kI (fun v4 => ?_)
  refine ee_istore_n (lv2 := [(3, .int v4), (0, .ref l0), (1, .int l1), (2, .int l2)]) dD_takeStep_7 (Nat.le_of_ble_eq_true rfl) rfl ?_
  refine ee_aload_n 1 dD_takeStep_8 rfl ?_
  refine ee_getR dD_takeStep_9 lfD_60 (fun v9 _ => ?_)
  refine ee_iload_n 2 dD_takeStep_12 rfl ?_
  refine ee_iald (t := 0) dD_takeStep_13 rfl (fun v13 _ => ?_)
  refine ee_bipush (v := (32 : Int32)) dD_takeStep_14 (by decide) ?_
  refine ee_irem dD_takeStep_16 (fun v16 _ => ?_)
  refine ee_iconst (v := (1 : Int32)) dD_takeStep_17 (by decide) ?_
  refine ee_icmp_ne (tgt := 29) dD_takeStep_18 (by decide) (fun h18 => ?_) (fun h18 => ?_)
  · refine ee_iconst (v := (0 : Int32)) dD_takeStep_29 (by decide) ?_
    exact ee_zret rfl dD_takeStep_30
  · refine ee_iload_n 0 dD_takeStep_21 rfl ?_
    refine ee_sipush (v := (2048 : Int32)) dD_takeStep_22 (by decide) ?_
    refine ee_irem dD_takeStep_25 (fun v25 _ => ?_)
    refine ee_if_eq (tgt := 31) dD_takeStep_26 (by decide) (fun h26 => ?_) (fun h26 => ?_)
    · refine ee_aload_n 1 dD_takeStep_31 rfl ?_
      refine ee_iload_n 3 dD_takeStep_32 rfl ?_
      refine ee_bipush (v := (10 : Int32)) dD_takeStep_33 (by decide) ?_
      refine ee_aload_n 1 dD_takeStep_35 rfl ?_
      refine ee_getR dD_takeStep_36 lfD_60 (fun v36 _ => ?_)
      refine ee_iload_n 2 dD_takeStep_39 rfl ?_
      refine ee_iald (t := 0) dD_takeStep_40 rfl (fun v40 _ => ?_)
      refine ee_bipush (v := (32 : Int32)) dD_takeStep_41 (by decide) ?_
      refine ee_idiv dD_takeStep_43 (fun v43 _ => ?_)
      refine ee_bind (fun _ ho44 => ?_)
      refine ee_callV (as := [.int l2, .int (10 : Int32), .int v43]) (st := []) dD_takeStep_44 (t_fD_put l0 l2 (10 : Int32) v43 w4) my_fD_put.1 (Nat.le_of_ble_eq_true rfl) my_fD_put.2 rfl cf_10.1 rfl (p_obj_eq.mp ho44) gw_1170 gw_1172 gw_9 ⟨Nat.le_of_ble_eq_true rfl, Nat.le_of_ble_eq_true rfl⟩ (Nat.le_of_ble_eq_true rfl) (fun rv44 w44 _ => ?_)
      refine ee_kV ?_
      refine ee_aload_n 1 dD_takeStep_47 rfl ?_
      refine ee_iload_n 3 dD_takeStep_48 rfl ?_
      refine ee_bipush (v := (9 : Int32)) dD_takeStep_49 (by decide) ?_
      refine ee_iload_n 0 dD_takeStep_51 rfl ?_
      refine ee_sipush (v := (2048 : Int32)) dD_takeStep_52 (by decide) ?_
      refine ee_idiv dD_takeStep_55 (fun v55 _ => ?_)
      refine ee_bind (fun _ ho56 => ?_)
      refine ee_callV (as := [.int l2, .int (9 : Int32), .int v55]) (st := []) dD_takeStep_56 (t_fD_put l0 l2 (9 : Int32) v55 w44) my_fD_put.1 (Nat.le_of_ble_eq_true rfl) my_fD_put.2 rfl cf_10.1 rfl (p_obj_eq.mp ho56) gw_1170 gw_1172 gw_9 ⟨Nat.le_of_ble_eq_true rfl, Nat.le_of_ble_eq_true rfl⟩ (Nat.le_of_ble_eq_true rfl) (fun rv56 w56 _ => ?_)
      refine ee_kV ?_
      refine ee_aload_n 1 dD_takeStep_59 rfl ?_
      refine ee_getR dD_takeStep_60 lfD_17 (fun v60 _ => ?_)
      refine ee_iload_n 3 dD_takeStep_63 rfl ?_
      refine ee_iconst (v := (1 : Int32)) dD_takeStep_64 (by decide) ?_
      refine ee_zast (t := 2) dD_takeStep_65 rfl (fun w65 _ => ?_)
      refine ee_iconst (v := (1 : Int32)) dD_takeStep_66 (by decide) ?_
      exact ee_zret rfl dD_takeStep_67
    · refine ee_iconst (v := (0 : Int32)) dD_takeStep_29 (by decide) ?_
      exact ee_zret rfl dD_takeStep_30
def fD_takeStyle_174 (l0 : Nat) (l2 : Int32) (l4 : Int32) (w : PW) : PX := (p_getR w l0 10 23).bind fun v179 => (p_ald w v179 0 l4).bind fun v184 => (p_obj w l0 10).bind fun _ => p_call (fD_put l0 l2 (6 : Int32) v184 w) <| p_kV fun w185 => (p_getR w185 l0 10 23).bind fun v193 => (p_ald w185 v193 0 (l4 + (1 : Int32))).bind fun v200 => (p_obj w185 l0 10).bind fun _ => p_call (fD_put l0 l2 (7 : Int32) (v200 + (2 : Int32)) w185) <| p_kV fun w203 => (p_getR w203 l0 10 23).bind fun v211 => (p_ald w203 v211 0 (l4 + (4 : Int32))).bind fun v218 => (p_obj w203 l0 10).bind fun _ => p_call (fD_put l0 l2 (8 : Int32) v218 w203) <| p_kV fun w219 => (p_getR w219 l0 10 4).bind fun v223 => (p_ast w219 v223 2 l2 (vp_nar .boolean (1 : Int32))).bind fun w228 => p_retZ (1 : Int32) w228
set_option maxRecDepth 20000 in
set_option maxHeartbeats 2000000 in
theorem t_fD_takeStyle_174 {Γ : PG} : ∀ (l0 : Nat) (l2 : Int32) (l4 : Int32) (w : PW), EE Γ MD_takeStyle 174 [(0, .ref l0), (2, .int l2), (4, .int l4)] [] w (fD_takeStyle_174 l0 l2 l4 w) := by
  intro l0 l2 l4 w
  unfold fD_takeStyle_174
  refine ee_aload_n 0 dD_takeStyle_174 rfl ?_
  refine ee_iload_n 1 dD_takeStyle_175 rfl ?_
  refine ee_bipush (v := (6 : Int32)) dD_takeStyle_176 (by decide) ?_
  refine ee_aload_n 0 dD_takeStyle_178 rfl ?_
  refine ee_getR dD_takeStyle_179 lfD_60 (fun v179 _ => ?_)
  refine ee_iload 2 dD_takeStyle_182 rfl ?_
  refine ee_iald (t := 0) dD_takeStyle_184 rfl (fun v184 _ => ?_)
  refine ee_bind (fun _ ho185 => ?_)
  refine ee_callV (as := [.int l2, .int (6 : Int32), .int v184]) (st := []) dD_takeStyle_185 (t_fD_put l0 l2 (6 : Int32) v184 w) my_fD_put.1 (Nat.le_of_ble_eq_true rfl) my_fD_put.2 rfl cf_10.1 rfl (p_obj_eq.mp ho185) gw_1170 gw_1172 gw_9 ⟨Nat.le_of_ble_eq_true rfl, Nat.le_of_ble_eq_true rfl⟩ (Nat.le_of_ble_eq_true rfl) (fun rv185 w185 _ => ?_)
  refine ee_kV ?_
  refine ee_aload_n 0 dD_takeStyle_188 rfl ?_
  refine ee_iload_n 1 dD_takeStyle_189 rfl ?_
  refine ee_bipush (v := (7 : Int32)) dD_takeStyle_190 (by decide) ?_
  refine ee_aload_n 0 dD_takeStyle_192 rfl ?_
  refine ee_getR dD_takeStyle_193 lfD_60 (fun v193 _ => ?_)
  refine ee_iload 2 dD_takeStyle_196 rfl ?_
  refine ee_iconst (v := (1 : Int32)) dD_takeStyle_198 (by decide) ?_
  refine ee_iadd dD_takeStyle_199 ?_
  refine ee_iald (t := 0) dD_takeStyle_200 rfl (fun v200 _ => ?_)
  refine ee_iconst (v := (2 : Int32)) dD_takeStyle_201 (by decide) ?_
  refine ee_iadd dD_takeStyle_202 ?_
  refine ee_bind (fun _ ho203 => ?_)
  refine ee_callV (as := [.int l2, .int (7 : Int32), .int (v200 + (2 : Int32))]) (st := []) dD_takeStyle_203 (t_fD_put l0 l2 (7 : Int32) (v200 + (2 : Int32)) w185) my_fD_put.1 (Nat.le_of_ble_eq_true rfl) my_fD_put.2 rfl cf_10.1 rfl (p_obj_eq.mp ho203) gw_1170 gw_1172 gw_9 ⟨Nat.le_of_ble_eq_true rfl, Nat.le_of_ble_eq_true rfl⟩ (Nat.le_of_ble_eq_true rfl) (fun rv203 w203 _ => ?_)
  refine ee_kV ?_
  refine ee_aload_n 0 dD_takeStyle_206 rfl ?_
  refine ee_iload_n 1 dD_takeStyle_207 rfl ?_
  refine ee_bipush (v := (8 : Int32)) dD_takeStyle_208 (by decide) ?_
  refine ee_aload_n 0 dD_takeStyle_210 rfl ?_
  refine ee_getR dD_takeStyle_211 lfD_60 (fun v211 _ => ?_)
  refine ee_iload 2 dD_takeStyle_214 rfl ?_
  refine ee_iconst (v := (4 : Int32)) dD_takeStyle_216 (by decide) ?_
  refine ee_iadd dD_takeStyle_217 ?_
  refine ee_iald (t := 0) dD_takeStyle_218 rfl (fun v218 _ => ?_)
  refine ee_bind (fun _ ho219 => ?_)
  refine ee_callV (as := [.int l2, .int (8 : Int32), .int v218]) (st := []) dD_takeStyle_219 (t_fD_put l0 l2 (8 : Int32) v218 w203) my_fD_put.1 (Nat.le_of_ble_eq_true rfl) my_fD_put.2 rfl cf_10.1 rfl (p_obj_eq.mp ho219) gw_1170 gw_1172 gw_9 ⟨Nat.le_of_ble_eq_true rfl, Nat.le_of_ble_eq_true rfl⟩ (Nat.le_of_ble_eq_true rfl) (fun rv219 w219 _ => ?_)
  refine ee_kV ?_
  refine ee_aload_n 0 dD_takeStyle_222 rfl ?_
  refine ee_getR dD_takeStyle_223 lfD_13 (fun v223 _ => ?_)
  refine ee_iload_n 1 dD_takeStyle_226 rfl ?_
  refine ee_iconst (v := (1 : Int32)) dD_takeStyle_227 (by decide) ?_
  refine ee_zast (t := 2) dD_takeStyle_228 rfl (fun w228 _ => ?_)
  refine ee_iconst (v := (1 : Int32)) dD_takeStyle_229 (by decide) ?_
  exact ee_zret rfl dD_takeStyle_230
def fD_takeStyle_68 (l0 : Nat) (l1 : Int32) (l2 : Int32) (l3 : Int32) (l4 : Int32) (w : PW) : PX := p_let (l4 + (1 : Int32)) fun (l4_68 : Int32) => (p_getR w l0 10 23).bind fun v72 => (p_ald w v72 0 l4_68).bind fun v77 => if (5 : Int32) < v77 then (p_retZ (0 : Int32) w) else ((p_getR w l0 10 23).bind fun v83 => (p_ald w v83 0 (l4_68 + (1 : Int32))).bind fun v90 => if (4 : Int32) < v90 then (p_retZ (0 : Int32) w) else ((p_getR w l0 10 23).bind fun v96 => (p_ald w v96 0 (l4_68 + (2 : Int32))).bind fun v103 => (p_getR w l0 10 23).bind fun v105 => (p_ald w v105 0 (l4_68 + (1 : Int32))).bind fun v112 => if ¬ v103 = v112 then (p_retZ (0 : Int32) w) else ((p_getR w l0 10 23).bind fun v117 => (p_ald w v117 0 (l4_68 + (3 : Int32))).bind fun v124 => if ¬ v124 = 0 then (p_retZ (0 : Int32) w) else ((p_getR w l0 10 23).bind fun v129 => (p_ald w v129 0 (l4_68 + (4 : Int32))).bind fun v136 => if v136 ≤ (1 : Int32) then (if l3 = 0 then (fD_takeStyle_174 l0 l2 l4_68 w) else ((p_getR w l0 10 23).bind fun v151 => (p_ald w v151 0 (l1 + (1 : Int32))).bind fun v157 => (p_obj w l0 10).bind fun _ => p_call (fD_put l0 l2 (4 : Int32) v157 w) <| p_kV fun w158 => (p_obj w158 l0 10).bind fun _ => p_call (fD_two l0 (l1 + (2 : Int32)) w158) <| p_kI fun v168 w168 => (p_obj w168 l0 10).bind fun _ => p_call (fD_put l0 l2 (5 : Int32) v168 w168) <| p_kV fun w171 => fD_takeStyle_174 l0 l2 l4_68 w171)) else (p_retZ (0 : Int32) w)))))
set_option maxRecDepth 20000 in
set_option maxHeartbeats 2000000 in
theorem t_fD_takeStyle_68 {Γ : PG} : ∀ (l0 : Nat) (l1 : Int32) (l2 : Int32) (l3 : Int32) (l4 : Int32) (w : PW), EE Γ MD_takeStyle 68 [(0, .ref l0), (1, .int l1), (2, .int l2), (3, .int l3), (4, .int l4)] [] w (fD_takeStyle_68 l0 l1 l2 l3 l4 w) := by
  intro l0 l1 l2 l3 l4 w
  unfold fD_takeStyle_68
  refine ee_iinc 4 dD_takeStyle_68 rfl (e := (1 : Int32)) (by decide) (Nat.le_of_ble_eq_true rfl) (fun l4_68 _ => ?_)
  refine ee_lv (lv2 := [(4, .int l4_68), (0, .ref l0), (1, .int l1), (2, .int l2), (3, .int l3)]) rfl ?_
  refine ee_aload_n 1 dD_takeStyle_71 rfl ?_
  refine ee_getR dD_takeStyle_72 lfD_60 (fun v72 _ => ?_)
  refine ee_iload 0 dD_takeStyle_75 rfl ?_
  refine ee_iald (t := 0) dD_takeStyle_77 rfl (fun v77 _ => ?_)
  refine ee_iconst (v := (5 : Int32)) dD_takeStyle_78 (by decide) ?_
  refine ee_icmp_gt (tgt := 141) dD_takeStyle_79 (by decide) (fun h79 => ?_) (fun h79 => ?_)
  · refine ee_iconst (v := (0 : Int32)) dD_takeStyle_141 (by decide) ?_
    exact ee_zret rfl dD_takeStyle_142
  · refine ee_aload_n 1 dD_takeStyle_82 rfl ?_
    refine ee_getR dD_takeStyle_83 lfD_60 (fun v83 _ => ?_)
    refine ee_iload 0 dD_takeStyle_86 rfl ?_
    refine ee_iconst (v := (1 : Int32)) dD_takeStyle_88 (by decide) ?_
    refine ee_iadd dD_takeStyle_89 ?_
    refine ee_iald (t := 0) dD_takeStyle_90 rfl (fun v90 _ => ?_)
    refine ee_iconst (v := (4 : Int32)) dD_takeStyle_91 (by decide) ?_
    refine ee_icmp_gt (tgt := 141) dD_takeStyle_92 (by decide) (fun h92 => ?_) (fun h92 => ?_)
    · refine ee_iconst (v := (0 : Int32)) dD_takeStyle_141 (by decide) ?_
      exact ee_zret rfl dD_takeStyle_142
    · refine ee_aload_n 1 dD_takeStyle_95 rfl ?_
      refine ee_getR dD_takeStyle_96 lfD_60 (fun v96 _ => ?_)
      refine ee_iload 0 dD_takeStyle_99 rfl ?_
      refine ee_iconst (v := (2 : Int32)) dD_takeStyle_101 (by decide) ?_
      refine ee_iadd dD_takeStyle_102 ?_
      refine ee_iald (t := 0) dD_takeStyle_103 rfl (fun v103 _ => ?_)
      refine ee_aload_n 1 dD_takeStyle_104 rfl ?_
      refine ee_getR dD_takeStyle_105 lfD_60 (fun v105 _ => ?_)
      refine ee_iload 0 dD_takeStyle_108 rfl ?_
      refine ee_iconst (v := (1 : Int32)) dD_takeStyle_110 (by decide) ?_
      refine ee_iadd dD_takeStyle_111 ?_
      refine ee_iald (t := 0) dD_takeStyle_112 rfl (fun v112 _ => ?_)
      refine ee_icmp_ne (tgt := 141) dD_takeStyle_113 (by decide) (fun h113 => ?_) (fun h113 => ?_)
      · refine ee_iconst (v := (0 : Int32)) dD_takeStyle_141 (by decide) ?_
        exact ee_zret rfl dD_takeStyle_142
      · refine ee_aload_n 1 dD_takeStyle_116 rfl ?_
        refine ee_getR dD_takeStyle_117 lfD_60 (fun v117 _ => ?_)
        refine ee_iload 0 dD_takeStyle_120 rfl ?_
        refine ee_iconst (v := (3 : Int32)) dD_takeStyle_122 (by decide) ?_
        refine ee_iadd dD_takeStyle_123 ?_
        refine ee_iald (t := 0) dD_takeStyle_124 rfl (fun v124 _ => ?_)
        refine ee_if_ne (tgt := 141) dD_takeStyle_125 (by decide) (fun h125 => ?_) (fun h125 => ?_)
        · refine ee_iconst (v := (0 : Int32)) dD_takeStyle_141 (by decide) ?_
          exact ee_zret rfl dD_takeStyle_142
        · refine ee_aload_n 1 dD_takeStyle_128 rfl ?_
          refine ee_getR dD_takeStyle_129 lfD_60 (fun v129 _ => ?_)
          refine ee_iload 0 dD_takeStyle_132 rfl ?_
          refine ee_iconst (v := (4 : Int32)) dD_takeStyle_134 (by decide) ?_
          refine ee_iadd dD_takeStyle_135 ?_
          refine ee_iald (t := 0) dD_takeStyle_136 rfl (fun v136 _ => ?_)
          refine ee_iconst (v := (1 : Int32)) dD_takeStyle_137 (by decide) ?_
          refine ee_icmp_le (tgt := 143) dD_takeStyle_138 (by decide) (fun h138 => ?_) (fun h138 => ?_)
          · refine ee_iload_n 4 dD_takeStyle_143 rfl ?_
            refine ee_if_eq (tgt := 174) dD_takeStyle_144 (by decide) (fun h144 => ?_) (fun h144 => ?_)
            · refine ee_pick [1, 3, 0] rfl ?_
              exact t_fD_takeStyle_174 _ _ _ w
            · refine ee_aload_n 1 dD_takeStyle_147 rfl ?_
              refine ee_iload_n 3 dD_takeStyle_148 rfl ?_
              refine ee_iconst (v := (4 : Int32)) dD_takeStyle_149 (by decide) ?_
              refine ee_aload_n 1 dD_takeStyle_150 rfl ?_
              refine ee_getR dD_takeStyle_151 lfD_60 (fun v151 _ => ?_)
              refine ee_iload_n 2 dD_takeStyle_154 rfl ?_
              refine ee_iconst (v := (1 : Int32)) dD_takeStyle_155 (by decide) ?_
              refine ee_iadd dD_takeStyle_156 ?_
              refine ee_iald (t := 0) dD_takeStyle_157 rfl (fun v157 _ => ?_)
              refine ee_bind (fun _ ho158 => ?_)
              refine ee_callV (as := [.int l2, .int (4 : Int32), .int v157]) (st := []) dD_takeStyle_158 (t_fD_put l0 l2 (4 : Int32) v157 w) my_fD_put.1 (Nat.le_of_ble_eq_true rfl) my_fD_put.2 rfl cf_10.1 rfl (p_obj_eq.mp ho158) gw_1170 gw_1172 gw_9 ⟨Nat.le_of_ble_eq_true rfl, Nat.le_of_ble_eq_true rfl⟩ (Nat.le_of_ble_eq_true rfl) (fun rv158 w158 _ => ?_)
              refine ee_kV ?_
              refine ee_aload_n 1 dD_takeStyle_161 rfl ?_
              refine ee_iload_n 3 dD_takeStyle_162 rfl ?_
              refine ee_iconst (v := (5 : Int32)) dD_takeStyle_163 (by decide) ?_
              refine ee_aload_n 1 dD_takeStyle_164 rfl ?_
              refine ee_iload_n 2 dD_takeStyle_165 rfl ?_
              refine ee_iconst (v := (2 : Int32)) dD_takeStyle_166 (by decide) ?_
              refine ee_iadd dD_takeStyle_167 ?_
              refine ee_bind (fun _ ho168 => ?_)
              refine ee_callV (as := [.int (l1 + (2 : Int32))]) (st := [.int (5 : Int32), .int l2, .ref l0]) dD_takeStyle_168 (t_fD_two l0 (l1 + (2 : Int32)) w158) my_fD_two.1 (Nat.le_of_ble_eq_true rfl) my_fD_two.2 rfl cf_10.1 rfl (p_obj_eq.mp ho168) gw_1540 gw_1542 gw_42 ⟨Nat.le_of_ble_eq_true rfl, Nat.le_of_ble_eq_true rfl⟩ (Nat.le_of_ble_eq_true rfl) (fun rv168 w168 _ => ?_)
              refine ee_kI (fun v168 => ?_)
              refine ee_bind (fun _ ho171 => ?_)
              refine ee_callV (as := [.int l2, .int (5 : Int32), .int v168]) (st := []) dD_takeStyle_171 (t_fD_put l0 l2 (5 : Int32) v168 w168) my_fD_put.1 (Nat.le_of_ble_eq_true rfl) my_fD_put.2 rfl cf_10.1 rfl (p_obj_eq.mp ho171) gw_1170 gw_1172 gw_9 ⟨Nat.le_of_ble_eq_true rfl, Nat.le_of_ble_eq_true rfl⟩ (Nat.le_of_ble_eq_true rfl) (fun rv171 w171 _ => ?_)
              refine ee_kV ?_
              refine ee_pick [1, 3, 0] rfl ?_
              exact t_fD_takeStyle_174 _ _ _ w171
          · refine ee_iconst (v := (0 : Int32)) dD_takeStyle_141 (by decide) ?_
            exact ee_zret rfl dD_takeStyle_142
def fD_takeStyle (l0 : Nat) (l1 : Int32) (l2 : Int32) (l3 : Int32) (w : PW) : PX := (p_getR w l0 10 23).bind fun v4 => (p_ald w v4 0 l1).bind fun v9 => if v9 = 0 then (if l3 = 0 then (fD_takeStyle_68 l0 l1 l2 l3 l1 w) else ((p_getR w l0 10 23).bind fun v20 => (p_ald w v20 0 (l1 + (1 : Int32))).bind fun v27 => if (4 : Int32) < v27 then (p_retZ (0 : Int32) w) else ((p_obj w l0 10).bind fun _ => p_call (fD_two l0 (l1 + (2 : Int32)) w) <| p_kI fun v37 w37 => p_call (fD_in (Int32.toInt64 v37) (1 : Int64) (1000 : Int64) w37) <| p_kI fun v45 w45 => if v45 = 0 then (p_retZ (0 : Int32) w45) else ((p_getR w45 l0 10 23).bind fun v52 => (p_ald w45 v52 0 (l1 + (4 : Int32))).bind fun v59 => if v59 = 0 then (p_let (l1 + (4 : Int32)) fun (l4_65 : Int32) => fD_takeStyle_68 l0 l1 l2 l3 l4_65 w45) else (p_retZ (0 : Int32) w45))))) else (p_retZ (0 : Int32) w)
set_option maxRecDepth 20000 in
set_option maxHeartbeats 2000000 in
theorem t_fD_takeStyle {Γ : PG} : ∀ (l0 : Nat) (l1 : Int32) (l2 : Int32) (l3 : Int32) (w : PW), EE Γ MD_takeStyle 0 (lv_args 0 [.ref l0, .int l1, .int l2, .int l3]) [] w (fD_takeStyle l0 l1 l2 l3 w) := by
  intro l0 l1 l2 l3 w
  unfold fD_takeStyle
  show EE Γ MD_takeStyle 0 [(0, .ref l0), (1, .int l1), (2, .int l2), (3, .int l3)] [] w _
  refine ee_iload_n 1 dD_takeStyle_0 rfl ?_
  refine ee_istore (lv2 := [(4, .int l1), (0, .ref l0), (1, .int l1), (2, .int l2), (3, .int l3)]) dD_takeStyle_1 (Nat.le_of_ble_eq_true rfl) rfl ?_
  refine ee_aload_n 1 dD_takeStyle_3 rfl ?_
  refine ee_getR dD_takeStyle_4 lfD_60 (fun v4 _ => ?_)
  refine ee_iload 0 dD_takeStyle_7 rfl ?_
  refine ee_iald (t := 0) dD_takeStyle_9 rfl (fun v9 _ => ?_)
  refine ee_if_eq (tgt := 15) dD_takeStyle_10 (by decide) (fun h10 => ?_) (fun h10 => ?_)
  · refine ee_iload_n 4 dD_takeStyle_15 rfl ?_
    refine ee_if_eq (tgt := 68) dD_takeStyle_16 (by decide) (fun h16 => ?_) (fun h16 => ?_)
    · refine ee_pick [1, 2, 3, 4, 0] rfl ?_
      exact t_fD_takeStyle_68 _ _ _ _ _ w
    · refine ee_aload_n 1 dD_takeStyle_19 rfl ?_
      refine ee_getR dD_takeStyle_20 lfD_60 (fun v20 _ => ?_)
      refine ee_iload 0 dD_takeStyle_23 rfl ?_
      refine ee_iconst (v := (1 : Int32)) dD_takeStyle_25 (by decide) ?_
      refine ee_iadd dD_takeStyle_26 ?_
      refine ee_iald (t := 0) dD_takeStyle_27 rfl (fun v27 _ => ?_)
      refine ee_iconst (v := (4 : Int32)) dD_takeStyle_28 (by decide) ?_
      refine ee_icmp_gt (tgt := 63) dD_takeStyle_29 (by decide) (fun h29 => ?_) (fun h29 => ?_)
      · refine ee_iconst (v := (0 : Int32)) dD_takeStyle_63 (by decide) ?_
        exact ee_zret rfl dD_takeStyle_64
      · refine ee_aload_n 1 dD_takeStyle_32 rfl ?_
        refine ee_iload 0 dD_takeStyle_33 rfl ?_
        refine ee_iconst (v := (2 : Int32)) dD_takeStyle_35 (by decide) ?_
        refine ee_iadd dD_takeStyle_36 ?_
        refine ee_bind (fun _ ho37 => ?_)
        refine ee_callV (as := [.int (l1 + (2 : Int32))]) (st := []) dD_takeStyle_37 (t_fD_two l0 (l1 + (2 : Int32)) w) my_fD_two.1 (Nat.le_of_ble_eq_true rfl) my_fD_two.2 rfl cf_10.1 rfl (p_obj_eq.mp ho37) gw_1540 gw_1542 gw_42 ⟨Nat.le_of_ble_eq_true rfl, Nat.le_of_ble_eq_true rfl⟩ (Nat.le_of_ble_eq_true rfl) (fun rv37 w37 _ => ?_)
        refine ee_kI (fun v37 => ?_)
        refine ee_i2l dD_takeStyle_40 ?_
        refine ee_lconst (v := (1 : Int64)) dD_takeStyle_41 (by decide) ?_
        refine ee_ldc2 (v := (1000 : Int64)) dD_takeStyle_42 gw_1341 ?_
        refine ee_callS (as := [.long (Int32.toInt64 v37), .long (1 : Int64), .long (1000 : Int64)]) (st := []) dD_takeStyle_45 (t_fD_in (Int32.toInt64 v37) (1 : Int64) (1000 : Int64) w37) my_fD_in.1 (Nat.le_of_ble_eq_true rfl) my_fD_in.2 rfl gw_1320 gw_1321 ⟨Nat.le_of_ble_eq_true rfl, Nat.le_of_ble_eq_true rfl⟩ (Nat.le_of_ble_eq_true rfl) (fun rv45 w45 _ => ?_)
        refine ee_kI (fun v45 => ?_)
        refine ee_if_eq (tgt := 63) dD_takeStyle_48 (by decide) (fun h48 => ?_) (fun h48 => ?_)
        · refine ee_iconst (v := (0 : Int32)) dD_takeStyle_63 (by decide) ?_
          exact ee_zret rfl dD_takeStyle_64
        · refine ee_aload_n 1 dD_takeStyle_51 rfl ?_
          refine ee_getR dD_takeStyle_52 lfD_60 (fun v52 _ => ?_)
          refine ee_iload 0 dD_takeStyle_55 rfl ?_
          refine ee_iconst (v := (4 : Int32)) dD_takeStyle_57 (by decide) ?_
          refine ee_iadd dD_takeStyle_58 ?_
          refine ee_iald (t := 0) dD_takeStyle_59 rfl (fun v59 _ => ?_)
          refine ee_if_eq (tgt := 65) dD_takeStyle_60 (by decide) (fun h60 => ?_) (fun h60 => ?_)
          · refine ee_iinc 0 dD_takeStyle_65 rfl (e := (4 : Int32)) (by decide) (Nat.le_of_ble_eq_true rfl) (fun l4_65 _ => ?_)
            refine ee_lv (lv2 := [(4, .int l4_65), (0, .ref l0), (1, .int l1), (2, .int l2), (3, .int l3)]) rfl ?_
            refine ee_pick [1, 2, 3, 4, 0] rfl ?_
            exact t_fD_takeStyle_68 _ _ _ _ _ w45
          · refine ee_iconst (v := (0 : Int32)) dD_takeStyle_63 (by decide) ?_
            exact ee_zret rfl dD_takeStyle_64
  · refine ee_iconst (v := (0 : Int32)) dD_takeStyle_13 (by decide) ?_
    exact ee_zret rfl dD_takeStyle_14
def fD_takeSegment_142 (l0 : Nat) (l3 : Int32) (l6 : Int32) (l7 : Int32) (s0 : Int32) (s1 : Int32) (w : PW) : PX := p_let ((s1 + s0)) fun (l5_143 : Int32) => if l3 ≤ (90 : Int32) then ((p_obj w l0 10).bind fun _ => p_call (fD_takeStyle l0 l5_143 l7 l6 w) <| p_kI fun v169 w169 => p_retZ v169 w169) else ((p_obj w l0 10).bind fun _ => p_call (fD_takeStep l0 l5_143 l7 w) <| p_kI fun v156 w156 => p_retZ v156 w156)
set_option maxRecDepth 20000 in
set_option maxHeartbeats 2000000 in
theorem t_fD_takeSegment_142 {Γ : PG} : ∀ (l0 : Nat) (l3 : Int32) (l6 : Int32) (l7 : Int32) (s0 : Int32) (s1 : Int32) (w : PW), EE Γ MD_takeSegment 142 [(0, .ref l0), (3, .int l3), (6, .int l6), (7, .int l7)] [.int s0, .int s1] w (fD_takeSegment_142 l0 l3 l6 l7 s0 s1 w) := by
  intro l0 l3 l6 l7 s0 s1 w
  unfold fD_takeSegment_142
  refine ee_iadd dD_takeSegment_142 ?_
  refine ee_letI (fun l5_143 _ => ?_)
  refine ee_istore (lv2 := [(5, .int l5_143), (0, .ref l0), (3, .int l3), (6, .int l6), (7, .int l7)]) dD_takeSegment_143 (Nat.le_of_ble_eq_true rfl) rfl ?_
  refine ee_iload_n 2 dD_takeSegment_145 rfl ?_
  refine ee_bipush (v := (90 : Int32)) dD_takeSegment_146 (by decide) ?_
  refine ee_icmp_le (tgt := 162) dD_takeSegment_148 (by decide) (fun h148 => ?_) (fun h148 => ?_)
  · refine ee_aload_n 1 dD_takeSegment_162 rfl ?_
    refine ee_iload 0 dD_takeSegment_163 rfl ?_
    refine ee_iload 4 dD_takeSegment_165 rfl ?_
    refine ee_iload 3 dD_takeSegment_167 rfl ?_
    refine ee_bind (fun _ ho169 => ?_)
    refine ee_callV (as := [.int l5_143, .int l7, .int l6]) (st := []) dD_takeSegment_169 (t_fD_takeStyle l0 l5_143 l7 l6 w) my_fD_takeStyle.1 (Nat.le_of_ble_eq_true rfl) my_fD_takeStyle.2 rfl cf_10.1 rfl (p_obj_eq.mp ho169) gw_1560 gw_1562 gw_46 ⟨Nat.le_of_ble_eq_true rfl, Nat.le_of_ble_eq_true rfl⟩ (Nat.le_of_ble_eq_true rfl) (fun rv169 w169 _ => ?_)
    refine ee_kI (fun v169 => ?_)
    exact ee_zret rfl dD_takeSegment_172
  · refine ee_aload_n 1 dD_takeSegment_151 rfl ?_
    refine ee_iload 0 dD_takeSegment_152 rfl ?_
    refine ee_iload 4 dD_takeSegment_154 rfl ?_
    refine ee_bind (fun _ ho156 => ?_)
    refine ee_callV (as := [.int l5_143, .int l7]) (st := []) dD_takeSegment_156 (t_fD_takeStep l0 l5_143 l7 w) my_fD_takeStep.1 (Nat.le_of_ble_eq_true rfl) my_fD_takeStep.2 rfl cf_10.1 rfl (p_obj_eq.mp ho156) gw_1556 gw_1558 gw_45 ⟨Nat.le_of_ble_eq_true rfl, Nat.le_of_ble_eq_true rfl⟩ (Nat.le_of_ble_eq_true rfl) (fun rv156 w156 _ => ?_)
    refine ee_kI (fun v156 => ?_)
    refine ee_goto (tgt := 172) dD_takeSegment_159 (by decide) ?_
    exact ee_zret rfl dD_takeSegment_172
def fD_takeSegment_124 (l0 : Nat) (l3 : Int32) (l5 : Int32) (l6 : Int32) (s0 : Int32) (s1 : Int32) (s2 : Int32) (w : PW) : PX := p_call (fD_placeOf s1 s0 w) <| p_kI fun v124 w124 => p_let ((s2 + v124)) fun (l7_128 : Int32) => if l6 = 0 then (fD_takeSegment_142 l0 l3 l6 l7_128 (1 : Int32) l5 w124) else (fD_takeSegment_142 l0 l3 l6 l7_128 (0 : Int32) l5 w124)
set_option maxRecDepth 20000 in
set_option maxHeartbeats 2000000 in
theorem t_fD_takeSegment_124 {Γ : PG} : ∀ (l0 : Nat) (l3 : Int32) (l5 : Int32) (l6 : Int32) (s0 : Int32) (s1 : Int32) (s2 : Int32) (w : PW), EE Γ MD_takeSegment 124 [(0, .ref l0), (3, .int l3), (5, .int l5), (6, .int l6)] [.int s0, .int s1, .int s2] w (fD_takeSegment_124 l0 l3 l5 l6 s0 s1 s2 w) := by
  intro l0 l3 l5 l6 s0 s1 s2 w
  unfold fD_takeSegment_124
  refine ee_callS (as := [.int s1, .int s0]) (st := [.int s2]) dD_takeSegment_124 (t_fD_placeOf s1 s0 w) my_fD_placeOf.1 (Nat.le_of_ble_eq_true rfl) my_fD_placeOf.2 rfl gw_1356 gw_1357 ⟨Nat.le_of_ble_eq_true rfl, Nat.le_of_ble_eq_true rfl⟩ (Nat.le_of_ble_eq_true rfl) (fun rv124 w124 _ => ?_)
  refine ee_kI (fun v124 => ?_)
  refine ee_iadd dD_takeSegment_127 ?_
  refine ee_letI (fun l7_128 _ => ?_)
  refine ee_istore (lv2 := [(7, .int l7_128), (0, .ref l0), (3, .int l3), (5, .int l5), (6, .int l6)]) dD_takeSegment_128 (Nat.le_of_ble_eq_true rfl) rfl ?_
  refine ee_iload 3 dD_takeSegment_130 rfl ?_
  refine ee_iload 4 dD_takeSegment_132 rfl ?_
  refine ee_if_eq (tgt := 141) dD_takeSegment_134 (by decide) (fun h134 => ?_) (fun h134 => ?_)
  · refine ee_iconst (v := (1 : Int32)) dD_takeSegment_141 (by decide) ?_
    refine ee_pick [1, 2, 4, 0] rfl ?_
    exact t_fD_takeSegment_142 _ _ _ _ _ _ w124
  · refine ee_iconst (v := (0 : Int32)) dD_takeSegment_137 (by decide) ?_
    refine ee_goto (tgt := 142) dD_takeSegment_138 (by decide) ?_
    refine ee_pick [1, 2, 4, 0] rfl ?_
    exact t_fD_takeSegment_142 _ _ _ _ _ _ w124
def fD_takeSegment_105 (l0 : Nat) (l2 : Int32) (l3 : Int32) (l5 : Int32) (l6 : Int32) (w : PW) : PX := if l6 = 0 then ((p_getR w l0 10 23).bind fun v118 => (p_ald w v118 0 l5).bind fun v123 => fD_takeSegment_124 l0 l3 l5 l6 v123 l2 (125 : Int32) w) else (fD_takeSegment_124 l0 l3 l5 l6 (-1 : Int32) l2 (125 : Int32) w)
set_option maxRecDepth 20000 in
set_option maxHeartbeats 2000000 in
theorem t_fD_takeSegment_105 {Γ : PG} : ∀ (l0 : Nat) (l2 : Int32) (l3 : Int32) (l5 : Int32) (l6 : Int32) (w : PW), EE Γ MD_takeSegment 105 [(0, .ref l0), (2, .int l2), (3, .int l3), (5, .int l5), (6, .int l6)] [] w (fD_takeSegment_105 l0 l2 l3 l5 l6 w) := by
  intro l0 l2 l3 l5 l6 w
  unfold fD_takeSegment_105
  refine ee_bipush (v := (125 : Int32)) dD_takeSegment_105 (by decide) ?_
  refine ee_iload_n 1 dD_takeSegment_107 rfl ?_
  refine ee_iload 4 dD_takeSegment_108 rfl ?_
  refine ee_if_eq (tgt := 117) dD_takeSegment_110 (by decide) (fun h110 => ?_) (fun h110 => ?_)
  · refine ee_aload_n 0 dD_takeSegment_117 rfl ?_
    refine ee_getR dD_takeSegment_118 lfD_60 (fun v118 _ => ?_)
    refine ee_iload 3 dD_takeSegment_121 rfl ?_
    refine ee_iald (t := 0) dD_takeSegment_123 rfl (fun v123 _ => ?_)
    refine ee_pick [0, 2, 3, 4] rfl ?_
    exact t_fD_takeSegment_124 _ _ _ _ _ _ _ w
  · refine ee_iconst (v := (-1 : Int32)) dD_takeSegment_113 (by decide) ?_
    refine ee_goto (tgt := 124) dD_takeSegment_114 (by decide) ?_
    refine ee_pick [0, 2, 3, 4] rfl ?_
    exact t_fD_takeSegment_124 _ _ _ _ _ _ _ w
def fD_takeSegment_78 (l0 : Nat) (l2 : Int32) (l3 : Int32) (l5 : Int32) (l6 : Int32) (s0 : Int32) (s1 : Int32) (w : PW) : PX := if ¬ s1 = s0 then (p_retZ (0 : Int32) w) else (if ¬ l6 = 0 then (fD_takeSegment_105 l0 l2 l3 l5 l6 w) else ((p_getR w l0 10 23).bind fun v87 => (p_ald w v87 0 l5).bind fun v92 => (p_getR w l0 10 7).bind fun v94 => (p_ald w v94 0 (7 : Int32)).bind fun v99 => if v92 < v99 then (fD_takeSegment_105 l0 l2 l3 l5 l6 w) else (p_retZ (0 : Int32) w)))
set_option maxRecDepth 20000 in
set_option maxHeartbeats 2000000 in
theorem t_fD_takeSegment_78 {Γ : PG} : ∀ (l0 : Nat) (l2 : Int32) (l3 : Int32) (l5 : Int32) (l6 : Int32) (s0 : Int32) (s1 : Int32) (w : PW), EE Γ MD_takeSegment 78 [(0, .ref l0), (2, .int l2), (3, .int l3), (5, .int l5), (6, .int l6)] [.int s0, .int s1] w (fD_takeSegment_78 l0 l2 l3 l5 l6 s0 s1 w) := by
  intro l0 l2 l3 l5 l6 s0 s1 w
  unfold fD_takeSegment_78
  refine ee_icmp_ne (tgt := 103) dD_takeSegment_78 (by decide) (fun h78 => ?_) (fun h78 => ?_)
  · refine ee_iconst (v := (0 : Int32)) dD_takeSegment_103 (by decide) ?_
    exact ee_zret rfl dD_takeSegment_104
  · refine ee_iload 4 dD_takeSegment_81 rfl ?_
    refine ee_if_ne (tgt := 105) dD_takeSegment_83 (by decide) (fun h83 => ?_) (fun h83 => ?_)
    · exact t_fD_takeSegment_105 _ _ _ _ _ w
    · refine ee_aload_n 0 dD_takeSegment_86 rfl ?_
      refine ee_getR dD_takeSegment_87 lfD_60 (fun v87 _ => ?_)
      refine ee_iload 3 dD_takeSegment_90 rfl ?_
      refine ee_iald (t := 0) dD_takeSegment_92 rfl (fun v92 _ => ?_)
      refine ee_aload_n 0 dD_takeSegment_93 rfl ?_
      refine ee_getR dD_takeSegment_94 lfD_23 (fun v94 _ => ?_)
      refine ee_bipush (v := (7 : Int32)) dD_takeSegment_97 (by decide) ?_
      refine ee_iald (t := 0) dD_takeSegment_99 rfl (fun v99 _ => ?_)
      refine ee_icmp_lt (tgt := 105) dD_takeSegment_100 (by decide) (fun h100 => ?_) (fun h100 => ?_)
      · exact t_fD_takeSegment_105 _ _ _ _ _ w
      · refine ee_iconst (v := (0 : Int32)) dD_takeSegment_103 (by decide) ?_
        exact ee_zret rfl dD_takeSegment_104
def fD_takeSegment_40 (l0 : Nat) (l2 : Int32) (l3 : Int32) (l4 : Int32) (l5 : Int32) (s0 : Int32) (w : PW) : PX := if ¬ l3 = (82 : Int32) then (if ¬ l3 = (83 : Int32) then (if ¬ l3 = (92 : Int32) then (fD_takeSegment_78 l0 l2 l3 l5 s0 (6 : Int32) l4 w) else (fD_takeSegment_78 l0 l2 l3 l5 s0 (5 : Int32) l4 w)) else (fD_takeSegment_78 l0 l2 l3 l5 s0 (9 : Int32) l4 w)) else (fD_takeSegment_78 l0 l2 l3 l5 s0 (12 : Int32) l4 w)
set_option maxRecDepth 20000 in
set_option maxHeartbeats 2000000 in
theorem t_fD_takeSegment_40 {Γ : PG} : ∀ (l0 : Nat) (l2 : Int32) (l3 : Int32) (l4 : Int32) (l5 : Int32) (s0 : Int32) (w : PW), EE Γ MD_takeSegment 40 [(0, .ref l0), (2, .int l2), (3, .int l3), (4, .int l4), (5, .int l5)] [.int s0] w (fD_takeSegment_40 l0 l2 l3 l4 l5 s0 w) := by
  intro l0 l2 l3 l4 l5 s0 w
  unfold fD_takeSegment_40
  refine ee_istore (lv2 := [(6, .int s0), (0, .ref l0), (2, .int l2), (3, .int l3), (4, .int l4), (5, .int l5)]) dD_takeSegment_40 (Nat.le_of_ble_eq_true rfl) rfl ?_
  refine ee_iload 4 dD_takeSegment_42 rfl ?_
  refine ee_iload_n 3 dD_takeSegment_44 rfl ?_
  refine ee_bipush (v := (82 : Int32)) dD_takeSegment_45 (by decide) ?_
  refine ee_icmp_ne (tgt := 55) dD_takeSegment_47 (by decide) (fun h47 => ?_) (fun h47 => ?_)
  · refine ee_iload_n 3 dD_takeSegment_55 rfl ?_
    refine ee_bipush (v := (83 : Int32)) dD_takeSegment_56 (by decide) ?_
    refine ee_icmp_ne (tgt := 66) dD_takeSegment_58 (by decide) (fun h58 => ?_) (fun h58 => ?_)
    · refine ee_iload_n 3 dD_takeSegment_66 rfl ?_
      refine ee_bipush (v := (92 : Int32)) dD_takeSegment_67 (by decide) ?_
      refine ee_icmp_ne (tgt := 76) dD_takeSegment_69 (by decide) (fun h69 => ?_) (fun h69 => ?_)
      · refine ee_bipush (v := (6 : Int32)) dD_takeSegment_76 (by decide) ?_
        refine ee_pick [1, 2, 3, 5, 0] rfl ?_
        exact t_fD_takeSegment_78 _ _ _ _ _ _ _ w
      · refine ee_iconst (v := (5 : Int32)) dD_takeSegment_72 (by decide) ?_
        refine ee_goto (tgt := 78) dD_takeSegment_73 (by decide) ?_
        refine ee_pick [1, 2, 3, 5, 0] rfl ?_
        exact t_fD_takeSegment_78 _ _ _ _ _ _ _ w
    · refine ee_bipush (v := (9 : Int32)) dD_takeSegment_61 (by decide) ?_
      refine ee_goto (tgt := 78) dD_takeSegment_63 (by decide) ?_
      refine ee_pick [1, 2, 3, 5, 0] rfl ?_
      exact t_fD_takeSegment_78 _ _ _ _ _ _ _ w
  · refine ee_bipush (v := (12 : Int32)) dD_takeSegment_50 (by decide) ?_
    refine ee_goto (tgt := 78) dD_takeSegment_52 (by decide) ?_
    refine ee_pick [1, 2, 3, 5, 0] rfl ?_
    exact t_fD_takeSegment_78 _ _ _ _ _ _ _ w
def fD_takeSegment (l0 : Nat) (l1 : Int32) (l2 : Int32) (w : PW) : PX := (p_getR w l0 10 23).bind fun v1 => (p_ald w v1 0 (l1 + (1 : Int32))).bind fun v7 => (p_obj w l0 10).bind fun _ => p_call (fD_two l0 (l1 + (2 : Int32)) w) <| p_kI fun v13 w13 => p_let ((l1 + (4 : Int32))) fun (l5_21 : Int32) => if v7 = (82 : Int32) then (fD_takeSegment_40 l0 l2 v7 v13 l5_21 (1 : Int32) w13) else (if ¬ v7 = (92 : Int32) then (fD_takeSegment_40 l0 l2 v7 v13 l5_21 (0 : Int32) w13) else (fD_takeSegment_40 l0 l2 v7 v13 l5_21 (1 : Int32) w13))
set_option maxRecDepth 20000 in
set_option maxHeartbeats 2000000 in
theorem t_fD_takeSegment {Γ : PG} : ∀ (l0 : Nat) (l1 : Int32) (l2 : Int32) (w : PW), EE Γ MD_takeSegment 0 (lv_args 0 [.ref l0, .int l1, .int l2]) [] w (fD_takeSegment l0 l1 l2 w) := by
  intro l0 l1 l2 w
  unfold fD_takeSegment
  show EE Γ MD_takeSegment 0 [(0, .ref l0), (1, .int l1), (2, .int l2)] [] w _
  refine ee_aload_n 0 dD_takeSegment_0 rfl ?_
  refine ee_getR dD_takeSegment_1 lfD_60 (fun v1 _ => ?_)
  refine ee_iload_n 1 dD_takeSegment_4 rfl ?_
  refine ee_iconst (v := (1 : Int32)) dD_takeSegment_5 (by decide) ?_
  refine ee_iadd dD_takeSegment_6 ?_
  refine ee_iald (t := 0) dD_takeSegment_7 rfl (fun v7 _ => ?_)
  refine ee_istore_n (lv2 := [(3, .int v7), (0, .ref l0), (1, .int l1), (2, .int l2)]) dD_takeSegment_8 (Nat.le_of_ble_eq_true rfl) rfl ?_
  refine ee_aload_n 1 dD_takeSegment_9 rfl ?_
  refine ee_iload_n 2 dD_takeSegment_10 rfl ?_
  refine ee_iconst (v := (2 : Int32)) dD_takeSegment_11 (by decide) ?_
  refine ee_iadd dD_takeSegment_12 ?_
  refine ee_bind (fun _ ho13 => ?_)
  refine ee_callV (as := [.int (l1 + (2 : Int32))]) (st := []) dD_takeSegment_13 (t_fD_two l0 (l1 + (2 : Int32)) w) my_fD_two.1 (Nat.le_of_ble_eq_true rfl) my_fD_two.2 rfl cf_10.1 rfl (p_obj_eq.mp ho13) gw_1540 gw_1542 gw_42 ⟨Nat.le_of_ble_eq_true rfl, Nat.le_of_ble_eq_true rfl⟩ (Nat.le_of_ble_eq_true rfl) (fun rv13 w13 _ => ?_)
  refine ee_kI (fun v13 => ?_)
  refine ee_istore (lv2 := [(4, .int v13), (3, .int v7), (0, .ref l0), (1, .int l1), (2, .int l2)]) dD_takeSegment_16 (Nat.le_of_ble_eq_true rfl) rfl ?_
  refine ee_iload_n 3 dD_takeSegment_18 rfl ?_
  refine ee_iconst (v := (4 : Int32)) dD_takeSegment_19 (by decide) ?_
  refine ee_iadd dD_takeSegment_20 ?_
  refine ee_letI (fun l5_21 _ => ?_)
  refine ee_istore (lv2 := [(5, .int l5_21), (4, .int v13), (3, .int v7), (0, .ref l0), (1, .int l1), (2, .int l2)]) dD_takeSegment_21 (Nat.le_of_ble_eq_true rfl) rfl ?_
  refine ee_iload_n 2 dD_takeSegment_23 rfl ?_
  refine ee_bipush (v := (82 : Int32)) dD_takeSegment_24 (by decide) ?_
  refine ee_icmp_eq (tgt := 35) dD_takeSegment_26 (by decide) (fun h26 => ?_) (fun h26 => ?_)
  · refine ee_iconst (v := (1 : Int32)) dD_takeSegment_35 (by decide) ?_
    refine ee_goto (tgt := 40) dD_takeSegment_36 (by decide) ?_
    refine ee_pick [3, 5, 2, 1, 0] rfl ?_
    exact t_fD_takeSegment_40 _ _ _ _ _ _ w13
  · refine ee_iload_n 2 dD_takeSegment_29 rfl ?_
    refine ee_bipush (v := (92 : Int32)) dD_takeSegment_30 (by decide) ?_
    refine ee_icmp_ne (tgt := 39) dD_takeSegment_32 (by decide) (fun h32 => ?_) (fun h32 => ?_)
    · refine ee_iconst (v := (0 : Int32)) dD_takeSegment_39 (by decide) ?_
      refine ee_pick [3, 5, 2, 1, 0] rfl ?_
      exact t_fD_takeSegment_40 _ _ _ _ _ _ w13
    · refine ee_iconst (v := (1 : Int32)) dD_takeSegment_35 (by decide) ?_
      refine ee_goto (tgt := 40) dD_takeSegment_36 (by decide) ?_
      refine ee_pick [3, 5, 2, 1, 0] rfl ?_
      exact t_fD_takeSegment_40 _ _ _ _ _ _ w13
def fD_behind (l0 : Nat) (l1 : Int32) (l2 : Int32) (w : PW) : PX := if (l2 - l1) < (4 : Int32) then (some (.inl (some (.int (-1 : Int32))), w)) else ((p_getR w l0 10 23).bind fun v8 => (p_ald w v8 0 l1).bind fun v12 => if v12 = (255 : Int32) then ((p_obj w l0 10).bind fun _ => p_call (fD_two l0 (l1 + (2 : Int32)) w) <| p_kI fun v25 w25 => if v25 < (2 : Int32) then (some (.inl (some (.int (-1 : Int32))), w25)) else (if ((l1 + (2 : Int32)) + v25) ≤ l2 then (some (.inl (some (.int ((l1 + (2 : Int32)) + v25))), w25)) else (some (.inl (some (.int (-1 : Int32))), w25)))) else (some (.inl (some (.int (-1 : Int32))), w)))
set_option maxRecDepth 20000 in
set_option maxHeartbeats 2000000 in
theorem t_fD_behind {Γ : PG} : ∀ (l0 : Nat) (l1 : Int32) (l2 : Int32) (w : PW), EE Γ MD_behind 0 (lv_args 0 [.ref l0, .int l1, .int l2]) [] w (fD_behind l0 l1 l2 w) := by
  intro l0 l1 l2 w
  unfold fD_behind
  show EE Γ MD_behind 0 [(0, .ref l0), (1, .int l1), (2, .int l2)] [] w _
  refine ee_iload_n 2 dD_behind_0 rfl ?_
  refine ee_iload_n 1 dD_behind_1 rfl ?_
  refine ee_isub dD_behind_2 ?_
  refine ee_iconst (v := (4 : Int32)) dD_behind_3 (by decide) ?_
  refine ee_icmp_lt (tgt := 19) dD_behind_4 (by decide) (fun h4 => ?_) (fun h4 => ?_)
  · refine ee_iconst (v := (-1 : Int32)) dD_behind_19 (by decide) ?_
    exact ee_iret rfl dD_behind_20
  · refine ee_aload_n 0 dD_behind_7 rfl ?_
    refine ee_getR dD_behind_8 lfD_60 (fun v8 _ => ?_)
    refine ee_iload_n 1 dD_behind_11 rfl ?_
    refine ee_iald (t := 0) dD_behind_12 rfl (fun v12 _ => ?_)
    refine ee_sipush (v := (255 : Int32)) dD_behind_13 (by decide) ?_
    refine ee_icmp_eq (tgt := 21) dD_behind_16 (by decide) (fun h16 => ?_) (fun h16 => ?_)
    · refine ee_aload_n 0 dD_behind_21 rfl ?_
      refine ee_iload_n 1 dD_behind_22 rfl ?_
      refine ee_iconst (v := (2 : Int32)) dD_behind_23 (by decide) ?_
      refine ee_iadd dD_behind_24 ?_
      refine ee_bind (fun _ ho25 => ?_)
      refine ee_callV (as := [.int (l1 + (2 : Int32))]) (st := []) dD_behind_25 (t_fD_two l0 (l1 + (2 : Int32)) w) my_fD_two.1 (Nat.le_of_ble_eq_true rfl) my_fD_two.2 rfl cf_10.1 rfl (p_obj_eq.mp ho25) gw_1540 gw_1542 gw_42 ⟨Nat.le_of_ble_eq_true rfl, Nat.le_of_ble_eq_true rfl⟩ (Nat.le_of_ble_eq_true rfl) (fun rv25 w25 _ => ?_)
      refine ee_kI (fun v25 => ?_)
      refine ee_istore_n (lv2 := [(3, .int v25), (0, .ref l0), (1, .int l1), (2, .int l2)]) dD_behind_28 (Nat.le_of_ble_eq_true rfl) rfl ?_
      refine ee_iload_n 0 dD_behind_29 rfl ?_
      refine ee_iconst (v := (2 : Int32)) dD_behind_30 (by decide) ?_
      refine ee_icmp_lt (tgt := 43) dD_behind_31 (by decide) (fun h31 => ?_) (fun h31 => ?_)
      · refine ee_iconst (v := (-1 : Int32)) dD_behind_43 (by decide) ?_
        refine ee_goto (tgt := 52) dD_behind_44 (by decide) ?_
        exact ee_iret rfl dD_behind_52
      · refine ee_iload_n 2 dD_behind_34 rfl ?_
        refine ee_iconst (v := (2 : Int32)) dD_behind_35 (by decide) ?_
        refine ee_iadd dD_behind_36 ?_
        refine ee_iload_n 0 dD_behind_37 rfl ?_
        refine ee_iadd dD_behind_38 ?_
        refine ee_iload_n 3 dD_behind_39 rfl ?_
        refine ee_icmp_le (tgt := 47) dD_behind_40 (by decide) (fun h40 => ?_) (fun h40 => ?_)
        · refine ee_iload_n 2 dD_behind_47 rfl ?_
          refine ee_iconst (v := (2 : Int32)) dD_behind_48 (by decide) ?_
          refine ee_iadd dD_behind_49 ?_
          refine ee_iload_n 0 dD_behind_50 rfl ?_
          refine ee_iadd dD_behind_51 ?_
          exact ee_iret rfl dD_behind_52
        · refine ee_iconst (v := (-1 : Int32)) dD_behind_43 (by decide) ?_
          refine ee_goto (tgt := 52) dD_behind_44 (by decide) ?_
          exact ee_iret rfl dD_behind_52
    · refine ee_iconst (v := (-1 : Int32)) dD_behind_19 (by decide) ?_
      exact ee_iret rfl dD_behind_20
def fD_isMark (l0 : Nat) (l1 : Int32) (l2 : Int32) (l3 : Int32) (w : PW) : PX := if (l2 - l1) < (2 : Int32) then (p_retZ (0 : Int32) w) else ((p_getR w l0 10 23).bind fun v8 => (p_ald w v8 0 l1).bind fun v12 => if ¬ v12 = (255 : Int32) then (p_retZ (0 : Int32) w) else ((p_getR w l0 10 23).bind fun v20 => (p_ald w v20 0 (l1 + (1 : Int32))).bind fun v26 => if ¬ v26 = l3 then (p_retZ (0 : Int32) w) else (p_retZ (1 : Int32) w)))
set_option maxRecDepth 20000 in
set_option maxHeartbeats 2000000 in
theorem t_fD_isMark {Γ : PG} : ∀ (l0 : Nat) (l1 : Int32) (l2 : Int32) (l3 : Int32) (w : PW), EE Γ MD_isMark 0 (lv_args 0 [.ref l0, .int l1, .int l2, .int l3]) [] w (fD_isMark l0 l1 l2 l3 w) := by
  intro l0 l1 l2 l3 w
  unfold fD_isMark
  show EE Γ MD_isMark 0 [(0, .ref l0), (1, .int l1), (2, .int l2), (3, .int l3)] [] w _
  refine ee_iload_n 2 dD_isMark_0 rfl ?_
  refine ee_iload_n 1 dD_isMark_1 rfl ?_
  refine ee_isub dD_isMark_2 ?_
  refine ee_iconst (v := (2 : Int32)) dD_isMark_3 (by decide) ?_
  refine ee_icmp_lt (tgt := 35) dD_isMark_4 (by decide) (fun h4 => ?_) (fun h4 => ?_)
  · refine ee_iconst (v := (0 : Int32)) dD_isMark_35 (by decide) ?_
    exact ee_zret rfl dD_isMark_36
  · refine ee_aload_n 0 dD_isMark_7 rfl ?_
    refine ee_getR dD_isMark_8 lfD_60 (fun v8 _ => ?_)
    refine ee_iload_n 1 dD_isMark_11 rfl ?_
    refine ee_iald (t := 0) dD_isMark_12 rfl (fun v12 _ => ?_)
    refine ee_sipush (v := (255 : Int32)) dD_isMark_13 (by decide) ?_
    refine ee_icmp_ne (tgt := 35) dD_isMark_16 (by decide) (fun h16 => ?_) (fun h16 => ?_)
    · refine ee_iconst (v := (0 : Int32)) dD_isMark_35 (by decide) ?_
      exact ee_zret rfl dD_isMark_36
    · refine ee_aload_n 0 dD_isMark_19 rfl ?_
      refine ee_getR dD_isMark_20 lfD_60 (fun v20 _ => ?_)
      refine ee_iload_n 1 dD_isMark_23 rfl ?_
      refine ee_iconst (v := (1 : Int32)) dD_isMark_24 (by decide) ?_
      refine ee_iadd dD_isMark_25 ?_
      refine ee_iald (t := 0) dD_isMark_26 rfl (fun v26 _ => ?_)
      refine ee_iload_n 3 dD_isMark_27 rfl ?_
      refine ee_icmp_ne (tgt := 35) dD_isMark_28 (by decide) (fun h28 => ?_) (fun h28 => ?_)
      · refine ee_iconst (v := (0 : Int32)) dD_isMark_35 (by decide) ?_
        exact ee_zret rfl dD_isMark_36
      · refine ee_iconst (v := (1 : Int32)) dD_isMark_31 (by decide) ?_
        refine ee_goto (tgt := 36) dD_isMark_32 (by decide) ?_
        exact ee_zret rfl dD_isMark_36
def fD_readHead_165 (l0 : Nat) (w : PW) : PX := (p_getI w l0 10 39).bind fun v167 => (p_obj w l0 10).bind fun _ => p_call (fD_fails l0 v167 w) <| p_kI fun v170 w170 => if v170 = 0 then (p_retZ (0 : Int32) w170) else (p_retZ (1 : Int32) w170)
set_option maxRecDepth 20000 in
set_option maxHeartbeats 2000000 in
theorem t_fD_readHead_165 {Γ : PG} : ∀ (l0 : Nat) (w : PW), EE Γ MD_readHead 165 [(0, .ref l0)] [] w (fD_readHead_165 l0 w) := by
  intro l0 w
  unfold fD_readHead_165
  refine ee_aload_n 0 dD_readHead_165 rfl ?_
  refine ee_aload_n 0 dD_readHead_166 rfl ?_
  refine ee_getI dD_readHead_167 lfD_301 (fun v167 _ => ?_)
  refine ee_bind (fun _ ho170 => ?_)
  refine ee_callV (as := [.int v167]) (st := []) dD_readHead_170 (t_fD_fails l0 v167 w) my_fD_fails.1 (Nat.le_of_ble_eq_true rfl) my_fD_fails.2 rfl cf_10.1 rfl (p_obj_eq.mp ho170) gw_1506 gw_1508 gw_35 ⟨Nat.le_of_ble_eq_true rfl, Nat.le_of_ble_eq_true rfl⟩ (Nat.le_of_ble_eq_true rfl) (fun rv170 w170 _ => ?_)
  refine ee_kI (fun v170 => ?_)
  refine ee_if_eq (tgt := 180) dD_readHead_173 (by decide) (fun h173 => ?_) (fun h173 => ?_)
  · refine ee_iconst (v := (0 : Int32)) dD_readHead_180 (by decide) ?_
    exact ee_zret rfl dD_readHead_181
  · refine ee_iconst (v := (1 : Int32)) dD_readHead_176 (by decide) ?_
    refine ee_goto (tgt := 181) dD_readHead_177 (by decide) ?_
    exact ee_zret rfl dD_readHead_181
def fD_readHead_145 (l0 : Nat) (w : PW) : PX := (p_getR w l0 10 4).bind fun v146 => (p_ald w v146 2 (125 : Int32)).bind fun v151 => if v151 = 0 then (fD_readHead_165 l0 w) else ((p_getR w l0 10 5).bind fun v156 => (p_ald w v156 2 (125 : Int32)).bind fun v161 => if ¬ v161 = 0 then (p_retZ (1 : Int32) w) else (fD_readHead_165 l0 w))
set_option maxRecDepth 20000 in
set_option maxHeartbeats 2000000 in
theorem t_fD_readHead_145 {Γ : PG} : ∀ (l0 : Nat) (w : PW), EE Γ MD_readHead 145 [(0, .ref l0)] [] w (fD_readHead_145 l0 w) := by
  intro l0 w
  unfold fD_readHead_145
  refine ee_aload_n 0 dD_readHead_145 rfl ?_
  refine ee_getR dD_readHead_146 lfD_13 (fun v146 _ => ?_)
  refine ee_bipush (v := (125 : Int32)) dD_readHead_149 (by decide) ?_
  refine ee_zald (t := 2) dD_readHead_151 rfl (fun v151 _ => ?_)
  refine ee_if_eq (tgt := 165) dD_readHead_152 (by decide) (fun h152 => ?_) (fun h152 => ?_)
  · exact t_fD_readHead_165 _ w
  · refine ee_aload_n 0 dD_readHead_155 rfl ?_
    refine ee_getR dD_readHead_156 lfD_17 (fun v156 _ => ?_)
    refine ee_bipush (v := (125 : Int32)) dD_readHead_159 (by decide) ?_
    refine ee_zald (t := 2) dD_readHead_161 rfl (fun v161 _ => ?_)
    refine ee_if_ne (tgt := 176) dD_readHead_162 (by decide) (fun h162 => ?_) (fun h162 => ?_)
    · refine ee_iconst (v := (1 : Int32)) dD_readHead_176 (by decide) ?_
      refine ee_goto (tgt := 181) dD_readHead_177 (by decide) ?_
      exact ee_zret rfl dD_readHead_181
    · exact t_fD_readHead_165 _ w
def fD_readHead_128 (l0 : Nat) (w : PW) : PX := (p_getI w l0 10 39).bind fun v130 => (p_obj w l0 10).bind fun _ => p_call (fD_fails l0 v130 w) <| p_kI fun v133 w133 => p_retZ v133 w133
set_option maxRecDepth 20000 in
set_option maxHeartbeats 2000000 in
theorem t_fD_readHead_128 {Γ : PG} : ∀ (l0 : Nat) (w : PW), EE Γ MD_readHead 128 [(0, .ref l0)] [] w (fD_readHead_128 l0 w) := by
  intro l0 w
  unfold fD_readHead_128
  refine ee_aload_n 0 dD_readHead_128 rfl ?_
  refine ee_aload_n 0 dD_readHead_129 rfl ?_
  refine ee_getI dD_readHead_130 lfD_301 (fun v130 _ => ?_)
  refine ee_bind (fun _ ho133 => ?_)
  refine ee_callV (as := [.int v130]) (st := []) dD_readHead_133 (t_fD_fails l0 v130 w) my_fD_fails.1 (Nat.le_of_ble_eq_true rfl) my_fD_fails.2 rfl cf_10.1 rfl (p_obj_eq.mp ho133) gw_1506 gw_1508 gw_35 ⟨Nat.le_of_ble_eq_true rfl, Nat.le_of_ble_eq_true rfl⟩ (Nat.le_of_ble_eq_true rfl) (fun rv133 w133 _ => ?_)
  refine ee_kI (fun v133 => ?_)
  exact ee_zret rfl dD_readHead_136
def fD_readHead_137 (k_45 : Nat → PW → PX) (l0 : Nat) (l1 : Int32) (w : PW) : PX := (p_put w l0 10 39 (.int l1)).bind fun w139 => k_45 l0 w139
set_option maxRecDepth 20000 in
set_option maxHeartbeats 2000000 in
theorem t_fD_readHead_137 {Γ : PG} {k_45 : Nat → PW → PX} (hk_45 : ∀ (l0 : Nat) (w : PW), EE Γ MD_readHead 45 [(0, .ref l0)] [] w (k_45 l0 w)) : ∀ (l0 : Nat) (l1 : Int32) (w : PW), EE Γ MD_readHead 137 [(0, .ref l0), (1, .int l1)] [] w (fD_readHead_137 k_45 l0 l1 w) := by
  intro l0 l1 w
  unfold fD_readHead_137
  refine ee_aload_n 0 dD_readHead_137 rfl ?_
  refine ee_iload_n 1 dD_readHead_138 rfl ?_
  refine ee_put dD_readHead_139 lpD_301 (ee_nI _) (fun w139 _ => ?_)
  refine ee_goto (tgt := 45) dD_readHead_142 (by decide) ?_
  refine ee_pick [0] rfl ?_
  exact hk_45 _ w139
def fD_readHead_45 : Nat → Nat → PW → PX
  | 0, _, _ => none
  | n9 + 1, l0, w => (p_getI w l0 10 39).bind fun v47 => (p_getI w l0 10 40).bind fun v51 => (p_obj w l0 10).bind fun _ => p_call (fD_isMark l0 v47 v51 (144 : Int32) w) <| p_kI fun v57 w57 => if ¬ v57 = 0 then (fD_readHead_145 l0 w57) else ((p_getI w57 l0 10 39).bind fun v65 => (p_getI w57 l0 10 40).bind fun v69 => (p_obj w57 l0 10).bind fun _ => p_call (fD_isMark l0 v65 v69 (217 : Int32) w57) <| p_kI fun v75 w75 => if ¬ v75 = 0 then (fD_readHead_145 l0 w75) else ((p_getI w75 l0 10 39).bind fun v83 => (p_getI w75 l0 10 40).bind fun v87 => (p_obj w75 l0 10).bind fun _ => p_call (fD_behind l0 v83 v87 w75) <| p_kI fun v90 w90 => if v90 = (-1 : Int32) then (fD_readHead_128 l0 w90) else ((p_getR w90 l0 10 23).bind fun v100 => (p_getI w90 l0 10 39).bind fun v104 => (p_ald w90 v100 0 (v104 + (1 : Int32))).bind fun v109 => p_call (fD_isSegment v109 w90) <| p_kI fun v110 w110 => if v110 = 0 then (fD_readHead_137 (fD_readHead_45 n9) l0 v90 w110) else ((p_getI w110 l0 10 39).bind fun v118 => (p_obj w110 l0 10).bind fun _ => p_call (fD_takeSegment l0 v118 (-1 : Int32) w110) <| p_kI fun v122 w122 => if ¬ v122 = 0 then (fD_readHead_137 (fD_readHead_45 n9) l0 v90 w122) else (fD_readHead_128 l0 w122)))))
set_option maxRecDepth 20000 in
set_option maxHeartbeats 2000000 in
theorem t_fD_readHead_45 {Γ : PG} : ∀ (n9 : Nat) (l0 : Nat) (w : PW), EE Γ MD_readHead 45 [(0, .ref l0)] [] w (fD_readHead_45 n9 l0 w) := by
  intro n9
  induction n9 with
  | zero => intro l0 w; exact ee_none
  | succ n9 ih =>
    intro l0 w
    unfold fD_readHead_45
    refine ee_aload_n 0 dD_readHead_45 rfl ?_
    refine ee_aload_n 0 dD_readHead_46 rfl ?_
    refine ee_getI dD_readHead_47 lfD_301 (fun v47 _ => ?_)
    refine ee_aload_n 0 dD_readHead_50 rfl ?_
    refine ee_getI dD_readHead_51 lfD_304 (fun v51 _ => ?_)
    refine ee_sipush (v := (144 : Int32)) dD_readHead_54 (by decide) ?_
    refine ee_bind (fun _ ho57 => ?_)
    refine ee_callV (as := [.int v47, .int v51, .int (144 : Int32)]) (st := []) dD_readHead_57 (t_fD_isMark l0 v47 v51 (144 : Int32) w) my_fD_isMark.1 (Nat.le_of_ble_eq_true rfl) my_fD_isMark.2 rfl cf_10.1 rfl (p_obj_eq.mp ho57) gw_1487 gw_1489 gw_31 ⟨Nat.le_of_ble_eq_true rfl, Nat.le_of_ble_eq_true rfl⟩ (Nat.le_of_ble_eq_true rfl) (fun rv57 w57 _ => ?_)
    refine ee_kI (fun v57 => ?_)
    refine ee_if_ne (tgt := 145) dD_readHead_60 (by decide) (fun h60 => ?_) (fun h60 => ?_)
    · exact t_fD_readHead_145 _ w57
    · refine ee_aload_n 0 dD_readHead_63 rfl ?_
      refine ee_aload_n 0 dD_readHead_64 rfl ?_
      refine ee_getI dD_readHead_65 lfD_301 (fun v65 _ => ?_)
      refine ee_aload_n 0 dD_readHead_68 rfl ?_
      refine ee_getI dD_readHead_69 lfD_304 (fun v69 _ => ?_)
      refine ee_sipush (v := (217 : Int32)) dD_readHead_72 (by decide) ?_
      refine ee_bind (fun _ ho75 => ?_)
      refine ee_callV (as := [.int v65, .int v69, .int (217 : Int32)]) (st := []) dD_readHead_75 (t_fD_isMark l0 v65 v69 (217 : Int32) w57) my_fD_isMark.1 (Nat.le_of_ble_eq_true rfl) my_fD_isMark.2 rfl cf_10.1 rfl (p_obj_eq.mp ho75) gw_1487 gw_1489 gw_31 ⟨Nat.le_of_ble_eq_true rfl, Nat.le_of_ble_eq_true rfl⟩ (Nat.le_of_ble_eq_true rfl) (fun rv75 w75 _ => ?_)
      refine ee_kI (fun v75 => ?_)
      refine ee_if_ne (tgt := 145) dD_readHead_78 (by decide) (fun h78 => ?_) (fun h78 => ?_)
      · exact t_fD_readHead_145 _ w75
      · refine ee_aload_n 0 dD_readHead_81 rfl ?_
        refine ee_aload_n 0 dD_readHead_82 rfl ?_
        refine ee_getI dD_readHead_83 lfD_301 (fun v83 _ => ?_)
        refine ee_aload_n 0 dD_readHead_86 rfl ?_
        refine ee_getI dD_readHead_87 lfD_304 (fun v87 _ => ?_)
        refine ee_bind (fun _ ho90 => ?_)
        refine ee_callV (as := [.int v83, .int v87]) (st := []) dD_readHead_90 (t_fD_behind l0 v83 v87 w75) my_fD_behind.1 (Nat.le_of_ble_eq_true rfl) my_fD_behind.2 rfl cf_10.1 rfl (p_obj_eq.mp ho90) gw_1545 gw_1547 gw_43 ⟨Nat.le_of_ble_eq_true rfl, Nat.le_of_ble_eq_true rfl⟩ (Nat.le_of_ble_eq_true rfl) (fun rv90 w90 _ => ?_)
        refine ee_kI (fun v90 => ?_)
        refine ee_istore_n (lv2 := [(1, .int v90), (0, .ref l0)]) dD_readHead_93 (Nat.le_of_ble_eq_true rfl) rfl ?_
        refine ee_iload_n 0 dD_readHead_94 rfl ?_
        refine ee_iconst (v := (-1 : Int32)) dD_readHead_95 (by decide) ?_
        refine ee_icmp_eq (tgt := 128) dD_readHead_96 (by decide) (fun h96 => ?_) (fun h96 => ?_)
        · refine ee_pick [1] rfl ?_
          exact t_fD_readHead_128 _ w90
        · refine ee_aload_n 1 dD_readHead_99 rfl ?_
          refine ee_getR dD_readHead_100 lfD_60 (fun v100 _ => ?_)
          refine ee_aload_n 1 dD_readHead_103 rfl ?_
          refine ee_getI dD_readHead_104 lfD_301 (fun v104 _ => ?_)
          refine ee_iconst (v := (1 : Int32)) dD_readHead_107 (by decide) ?_
          refine ee_iadd dD_readHead_108 ?_
          refine ee_iald (t := 0) dD_readHead_109 rfl (fun v109 _ => ?_)
          refine ee_callS (as := [.int v109]) (st := []) dD_readHead_110 (t_fD_isSegment v109 w90) my_fD_isSegment.1 (Nat.le_of_ble_eq_true rfl) my_fD_isSegment.2 rfl gw_1549 gw_1550 ⟨Nat.le_of_ble_eq_true rfl, Nat.le_of_ble_eq_true rfl⟩ (Nat.le_of_ble_eq_true rfl) (fun rv110 w110 _ => ?_)
          refine ee_kI (fun v110 => ?_)
          refine ee_if_eq (tgt := 137) dD_readHead_113 (by decide) (fun h113 => ?_) (fun h113 => ?_)
          · refine ee_pick [1, 0] rfl ?_
            exact t_fD_readHead_137 ih _ _ w110
          · refine ee_aload_n 1 dD_readHead_116 rfl ?_
            refine ee_aload_n 1 dD_readHead_117 rfl ?_
            refine ee_getI dD_readHead_118 lfD_301 (fun v118 _ => ?_)
            refine ee_iconst (v := (-1 : Int32)) dD_readHead_121 (by decide) ?_
            refine ee_bind (fun _ ho122 => ?_)
            refine ee_callV (as := [.int v118, .int (-1 : Int32)]) (st := []) dD_readHead_122 (t_fD_takeSegment l0 v118 (-1 : Int32) w110) my_fD_takeSegment.1 (Nat.le_of_ble_eq_true rfl) my_fD_takeSegment.2 rfl cf_10.1 rfl (p_obj_eq.mp ho122) gw_1552 gw_1554 gw_44 ⟨Nat.le_of_ble_eq_true rfl, Nat.le_of_ble_eq_true rfl⟩ (Nat.le_of_ble_eq_true rfl) (fun rv122 w122 _ => ?_)
            refine ee_kI (fun v122 => ?_)
            refine ee_if_ne (tgt := 137) dD_readHead_125 (by decide) (fun h125 => ?_) (fun h125 => ?_)
            · refine ee_pick [1, 0] rfl ?_
              exact t_fD_readHead_137 ih _ _ w122
            · refine ee_pick [1] rfl ?_
              exact t_fD_readHead_128 _ w122
def fD_readHead (l0 : Nat) (w : PW) : PX := (p_getI w l0 10 39).bind fun v2 => (p_getI w l0 10 40).bind fun v6 => (p_obj w l0 10).bind fun _ => p_call (fD_isMark l0 v2 v6 (79 : Int32) w) <| p_kI fun v11 w11 => if ¬ v11 = 0 then ((p_getI w11 l0 10 39).bind fun v28 => (p_put w11 l0 10 39 (.int (v28 + (2 : Int32)))).bind fun w33 => (p_obj w33 l0 10).bind fun _ => p_call (fD_readSizes l0 w33) <| p_kI fun v37 w37 => if ¬ v37 = 0 then (fD_readHead_45 FUEL l0 w37) else (p_retZ (0 : Int32) w37)) else ((p_getI w11 l0 10 39).bind fun v19 => (p_obj w11 l0 10).bind fun _ => p_call (fD_fails l0 v19 w11) <| p_kI fun v22 w22 => p_retZ v22 w22)
set_option maxRecDepth 20000 in
set_option maxHeartbeats 2000000 in
theorem t_fD_readHead {Γ : PG} : ∀ (l0 : Nat) (w : PW), EE Γ MD_readHead 0 (lv_args 0 [.ref l0]) [] w (fD_readHead l0 w) := by
  intro l0 w
  unfold fD_readHead
  show EE Γ MD_readHead 0 [(0, .ref l0)] [] w _
  refine ee_aload_n 0 dD_readHead_0 rfl ?_
  refine ee_aload_n 0 dD_readHead_1 rfl ?_
  refine ee_getI dD_readHead_2 lfD_301 (fun v2 _ => ?_)
  refine ee_aload_n 0 dD_readHead_5 rfl ?_
  refine ee_getI dD_readHead_6 lfD_304 (fun v6 _ => ?_)
  refine ee_bipush (v := (79 : Int32)) dD_readHead_9 (by decide) ?_
  refine ee_bind (fun _ ho11 => ?_)
  refine ee_callV (as := [.int v2, .int v6, .int (79 : Int32)]) (st := []) dD_readHead_11 (t_fD_isMark l0 v2 v6 (79 : Int32) w) my_fD_isMark.1 (Nat.le_of_ble_eq_true rfl) my_fD_isMark.2 rfl cf_10.1 rfl (p_obj_eq.mp ho11) gw_1487 gw_1489 gw_31 ⟨Nat.le_of_ble_eq_true rfl, Nat.le_of_ble_eq_true rfl⟩ (Nat.le_of_ble_eq_true rfl) (fun rv11 w11 _ => ?_)
  refine ee_kI (fun v11 => ?_)
  refine ee_if_ne (tgt := 26) dD_readHead_14 (by decide) (fun h14 => ?_) (fun h14 => ?_)
  · refine ee_aload_n 0 dD_readHead_26 rfl ?_
    refine ee_dup dD_readHead_27 rfl ?_
    refine ee_getI dD_readHead_28 lfD_301 (fun v28 _ => ?_)
    refine ee_iconst (v := (2 : Int32)) dD_readHead_31 (by decide) ?_
    refine ee_iadd dD_readHead_32 ?_
    refine ee_put dD_readHead_33 lpD_301 (ee_nI _) (fun w33 _ => ?_)
    refine ee_aload_n 0 dD_readHead_36 rfl ?_
    refine ee_bind (fun _ ho37 => ?_)
    refine ee_callV (as := []) (st := []) dD_readHead_37 (t_fD_readSizes l0 w33) my_fD_readSizes.1 (Nat.le_of_ble_eq_true rfl) my_fD_readSizes.2 rfl cf_10.1 rfl (p_obj_eq.mp ho37) gw_1536 gw_1538 gw_41 ⟨Nat.le_of_ble_eq_true rfl, Nat.le_of_ble_eq_true rfl⟩ (Nat.le_of_ble_eq_true rfl) (fun rv37 w37 _ => ?_)
    refine ee_kI (fun v37 => ?_)
    refine ee_if_ne (tgt := 45) dD_readHead_40 (by decide) (fun h40 => ?_) (fun h40 => ?_)
    · exact t_fD_readHead_45 FUEL _ w37
    · refine ee_iconst (v := (0 : Int32)) dD_readHead_43 (by decide) ?_
      exact ee_zret rfl dD_readHead_44
  · refine ee_aload_n 0 dD_readHead_17 rfl ?_
    refine ee_aload_n 0 dD_readHead_18 rfl ?_
    refine ee_getI dD_readHead_19 lfD_301 (fun v19 _ => ?_)
    refine ee_bind (fun _ ho22 => ?_)
    refine ee_callV (as := [.int v19]) (st := []) dD_readHead_22 (t_fD_fails l0 v19 w11) my_fD_fails.1 (Nat.le_of_ble_eq_true rfl) my_fD_fails.2 rfl cf_10.1 rfl (p_obj_eq.mp ho22) gw_1506 gw_1508 gw_35 ⟨Nat.le_of_ble_eq_true rfl, Nat.le_of_ble_eq_true rfl⟩ (Nat.le_of_ble_eq_true rfl) (fun rv22 w22 _ => ?_)
    refine ee_kI (fun v22 => ?_)
    exact ee_zret rfl dD_readHead_25
def fD_takeLengths_16 : Nat → Nat → Int32 → Int32 → Int32 → PW → PX
  | 0, _, _, _, _, _ => none
  | n9 + 1, l0, l2, l3, l4, w => if l2 ≤ l4 then (p_retZ (1 : Int32) w) else ((p_getR w l0 10 23).bind fun v28 => (p_ald w v28 0 l4).bind fun v33 => (p_irem v33 (128 : Int32)).bind fun v37 => p_let ((((128 : Int32) * l3) + v37)) fun (l3_39 : Int32) => if l3_39 ≤ (100000 : Int32) then ((p_getR w l0 10 23).bind fun v50 => (p_ald w v50 0 l4).bind fun v55 => if (128 : Int32) ≤ v55 then (p_let (l4 + (1 : Int32)) fun (l4_96 : Int32) => (fD_takeLengths_16 n9) l0 l2 l3_39 l4_96 w) else ((p_getI w l0 10 43).bind fun v63 => if ¬ v63 = (200 : Int32) then ((p_getR w l0 10 42).bind fun v75 => (p_getI w l0 10 43).bind fun v79 => (p_ast w v75 0 v79 l3_39).bind fun w83 => (p_getI w83 l0 10 43).bind fun v86 => (p_put w83 l0 10 43 (.int (v86 + (1 : Int32)))).bind fun w91 => p_let (l4 + (1 : Int32)) fun (l4_96 : Int32) => (fD_takeLengths_16 n9) l0 l2 (0 : Int32) l4_96 w91) else (p_retZ (0 : Int32) w))) else (p_retZ (0 : Int32) w))
set_option maxRecDepth 20000 in
set_option maxHeartbeats 2000000 in
theorem t_fD_takeLengths_16 {Γ : PG} : ∀ (n9 : Nat) (l0 : Nat) (l2 : Int32) (l3 : Int32) (l4 : Int32) (w : PW), EE Γ MD_takeLengths 16 [(0, .ref l0), (2, .int l2), (3, .int l3), (4, .int l4)] [] w (fD_takeLengths_16 n9 l0 l2 l3 l4 w) := by
  intro n9
  induction n9 with
  | zero => intro l0 l2 l3 l4 w; exact ee_none
  | succ n9 ih =>
    intro l0 l2 l3 l4 w
    unfold fD_takeLengths_16
    refine ee_iload 3 dD_takeLengths_16 rfl ?_
    refine ee_iload_n 1 dD_takeLengths_18 rfl ?_
    refine ee_icmp_ge (tgt := 102) dD_takeLengths_19 (by decide) (fun h19 => ?_) (fun h19 => ?_)
    · refine ee_iconst (v := (1 : Int32)) dD_takeLengths_102 (by decide) ?_
      exact ee_zret rfl dD_takeLengths_103
    · refine ee_sipush (v := (128 : Int32)) dD_takeLengths_22 (by decide) ?_
      refine ee_iload_n 2 dD_takeLengths_25 rfl ?_
      refine ee_imul dD_takeLengths_26 ?_
      refine ee_aload_n 0 dD_takeLengths_27 rfl ?_
      refine ee_getR dD_takeLengths_28 lfD_60 (fun v28 _ => ?_)
      refine ee_iload 3 dD_takeLengths_31 rfl ?_
      refine ee_iald (t := 0) dD_takeLengths_33 rfl (fun v33 _ => ?_)
      refine ee_sipush (v := (128 : Int32)) dD_takeLengths_34 (by decide) ?_
      refine ee_irem dD_takeLengths_37 (fun v37 _ => ?_)
      refine ee_iadd dD_takeLengths_38 ?_
      refine ee_letI (fun l3_39 _ => ?_)
      refine ee_istore_n (lv2 := [(3, .int l3_39), (0, .ref l0), (2, .int l2), (4, .int l4)]) dD_takeLengths_39 (Nat.le_of_ble_eq_true rfl) rfl ?_
      refine ee_iload_n 0 dD_takeLengths_40 rfl ?_
      refine ee_ldcw (v := (100000 : Int32)) dD_takeLengths_41 gw_1577 ?_
      refine ee_icmp_le (tgt := 49) dD_takeLengths_44 (by decide) (fun h44 => ?_) (fun h44 => ?_)
      · refine ee_aload_n 1 dD_takeLengths_49 rfl ?_
        refine ee_getR dD_takeLengths_50 lfD_60 (fun v50 _ => ?_)
        refine ee_iload 3 dD_takeLengths_53 rfl ?_
        refine ee_iald (t := 0) dD_takeLengths_55 rfl (fun v55 _ => ?_)
        refine ee_sipush (v := (128 : Int32)) dD_takeLengths_56 (by decide) ?_
        refine ee_icmp_ge (tgt := 96) dD_takeLengths_59 (by decide) (fun h59 => ?_) (fun h59 => ?_)
        · refine ee_iinc 3 dD_takeLengths_96 rfl (e := (1 : Int32)) (by decide) (Nat.le_of_ble_eq_true rfl) (fun l4_96 _ => ?_)
          refine ee_lv (lv2 := [(4, .int l4_96), (3, .int l3_39), (0, .ref l0), (2, .int l2)]) rfl ?_
          refine ee_goto (tgt := 16) dD_takeLengths_99 (by decide) ?_
          refine ee_pick [2, 3, 1, 0] rfl ?_
          exact ih _ _ _ _ w
        · refine ee_aload_n 1 dD_takeLengths_62 rfl ?_
          refine ee_getI dD_takeLengths_63 lfD_343 (fun v63 _ => ?_)
          refine ee_sipush (v := (200 : Int32)) dD_takeLengths_66 (by decide) ?_
          refine ee_icmp_ne (tgt := 74) dD_takeLengths_69 (by decide) (fun h69 => ?_) (fun h69 => ?_)
          · refine ee_aload_n 1 dD_takeLengths_74 rfl ?_
            refine ee_getR dD_takeLengths_75 lfD_93 (fun v75 _ => ?_)
            refine ee_aload_n 1 dD_takeLengths_78 rfl ?_
            refine ee_getI dD_takeLengths_79 lfD_343 (fun v79 _ => ?_)
            refine ee_iload_n 0 dD_takeLengths_82 rfl ?_
            refine ee_iast (t := 0) dD_takeLengths_83 rfl (fun w83 _ => ?_)
            refine ee_aload_n 1 dD_takeLengths_84 rfl ?_
            refine ee_dup dD_takeLengths_85 rfl ?_
            refine ee_getI dD_takeLengths_86 lfD_343 (fun v86 _ => ?_)
            refine ee_iconst (v := (1 : Int32)) dD_takeLengths_89 (by decide) ?_
            refine ee_iadd dD_takeLengths_90 ?_
            refine ee_put dD_takeLengths_91 lpD_343 (ee_nI _) (fun w91 _ => ?_)
            refine ee_iconst (v := (0 : Int32)) dD_takeLengths_94 (by decide) ?_
            refine ee_istore_n (lv2 := [(3, .int (0 : Int32)), (0, .ref l0), (2, .int l2), (4, .int l4)]) dD_takeLengths_95 (Nat.le_of_ble_eq_true rfl) rfl ?_
            refine ee_iinc 3 dD_takeLengths_96 rfl (e := (1 : Int32)) (by decide) (Nat.le_of_ble_eq_true rfl) (fun l4_96 _ => ?_)
            refine ee_lv (lv2 := [(4, .int l4_96), (3, .int (0 : Int32)), (0, .ref l0), (2, .int l2)]) rfl ?_
            refine ee_goto (tgt := 16) dD_takeLengths_99 (by decide) ?_
            refine ee_pick [2, 3, 1, 0] rfl ?_
            exact ih _ _ _ _ w91
          · refine ee_iconst (v := (0 : Int32)) dD_takeLengths_72 (by decide) ?_
            exact ee_zret rfl dD_takeLengths_73
      · refine ee_iconst (v := (0 : Int32)) dD_takeLengths_47 (by decide) ?_
        exact ee_zret rfl dD_takeLengths_48
def fD_takeLengths (l0 : Nat) (l1 : Int32) (l2 : Int32) (w : PW) : PX := if (5 : Int32) ≤ (l2 - l1) then (p_let ((l1 + (5 : Int32))) fun (l4_14 : Int32) => fD_takeLengths_16 FUEL l0 l2 (0 : Int32) l4_14 w) else (p_retZ (0 : Int32) w)
set_option maxRecDepth 20000 in
set_option maxHeartbeats 2000000 in
theorem t_fD_takeLengths {Γ : PG} : ∀ (l0 : Nat) (l1 : Int32) (l2 : Int32) (w : PW), EE Γ MD_takeLengths 0 (lv_args 0 [.ref l0, .int l1, .int l2]) [] w (fD_takeLengths l0 l1 l2 w) := by
  intro l0 l1 l2 w
  unfold fD_takeLengths
  show EE Γ MD_takeLengths 0 [(0, .ref l0), (1, .int l1), (2, .int l2)] [] w _
  refine ee_iload_n 2 dD_takeLengths_0 rfl ?_
  refine ee_iload_n 1 dD_takeLengths_1 rfl ?_
  refine ee_isub dD_takeLengths_2 ?_
  refine ee_iconst (v := (5 : Int32)) dD_takeLengths_3 (by decide) ?_
  refine ee_icmp_ge (tgt := 9) dD_takeLengths_4 (by decide) (fun h4 => ?_) (fun h4 => ?_)
  · refine ee_iconst (v := (0 : Int32)) dD_takeLengths_9 (by decide) ?_
    refine ee_istore_n (lv2 := [(3, .int (0 : Int32)), (0, .ref l0), (1, .int l1), (2, .int l2)]) dD_takeLengths_10 (Nat.le_of_ble_eq_true rfl) rfl ?_
    refine ee_iload_n 2 dD_takeLengths_11 rfl ?_
    refine ee_iconst (v := (5 : Int32)) dD_takeLengths_12 (by decide) ?_
    refine ee_iadd dD_takeLengths_13 ?_
    refine ee_letI (fun l4_14 _ => ?_)
    refine ee_istore (lv2 := [(4, .int l4_14), (3, .int (0 : Int32)), (0, .ref l0), (1, .int l1), (2, .int l2)]) dD_takeLengths_14 (Nat.le_of_ble_eq_true rfl) rfl ?_
    refine ee_pick [2, 4, 1, 0] rfl ?_
    exact t_fD_takeLengths_16 FUEL _ _ _ _ w
  · refine ee_iconst (v := (0 : Int32)) dD_takeLengths_7 (by decide) ?_
    exact ee_zret rfl dD_takeLengths_8
