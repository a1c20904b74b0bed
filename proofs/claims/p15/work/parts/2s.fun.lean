def fD_read_130 (l0 : Nat) (s0 : Int32) (s1 : Nat) (w : PW) : PX := if ¬ (s0 = 0 ∨ s0 = 1) then none else (p_put w s1 10 25 (.int s0)).bind fun w130 => (p_getI w130 l0 10 25).bind fun v134 => if v134 = 0 then ((p_getI w130 l0 10 41).bind fun v149 => some (.inl (some (.int ((-1 : Int32) - v149))), w130)) else ((p_getI w130 l0 10 30).bind fun v141 => some (.inl (some (.int v141)), w130))
set_option maxRecDepth 20000 in
set_option maxHeartbeats 2000000 in
theorem t_fD_read_130 {Γ : PG} : ∀ (l0 : Nat) (s0 : Int32) (s1 : Nat) (w : PW), EE Γ MD_read 130 [(0, .ref l0)] [.int s0, .ref s1] w (fD_read_130 l0 s0 s1 w) := by
  intro l0 s0 s1 w
  unfold fD_read_130
  refine ee_ite (fun _ => ee_none) (fun hz130 => ?_)
  refine ee_put dD_read_130 lpD_380 (ee_nZ _ (Classical.byContradiction hz130)) (fun w130 _ => ?_)
  refine ee_aload_n 0 dD_read_133 rfl ?_
  refine ee_getI dD_read_134 lfD_380 (fun v134 _ => ?_)
  refine ee_if_eq (tgt := 147) dD_read_137 (by decide) (fun h137 => ?_) (fun h137 => ?_)
  · refine ee_iconst (v := (-1 : Int32)) dD_read_147 (by decide) ?_
    refine ee_aload_n 0 dD_read_148 rfl ?_
    refine ee_getI dD_read_149 lfD_258 (fun v149 _ => ?_)
    refine ee_isub dD_read_152 ?_
    exact ee_iret rfl dD_read_153
  · refine ee_aload_n 0 dD_read_140 rfl ?_
    refine ee_getI dD_read_141 lfD_349 (fun v141 _ => ?_)
    refine ee_goto (tgt := 153) dD_read_144 (by decide) ?_
    exact ee_iret rfl dD_read_153
def fD_read_118 (l0 : Nat) (s0 : Nat) (w : PW) : PX := (p_obj w l0 10).bind fun _ => p_call (fD_readStream l0 w) <| p_kI fun v119 w119 => if v119 = 0 then (fD_read_130 l0 (0 : Int32) s0 w119) else (fD_read_130 l0 (1 : Int32) s0 w119)
set_option maxRecDepth 20000 in
set_option maxHeartbeats 2000000 in
theorem t_fD_read_118 {Γ : PG} : ∀ (l0 : Nat) (s0 : Nat) (w : PW), EE Γ MD_read 118 [(0, .ref l0)] [.ref s0] w (fD_read_118 l0 s0 w) := by
  intro l0 s0 w
  unfold fD_read_118
  refine ee_aload_n 0 dD_read_118 rfl ?_
  refine ee_bind (fun _ ho119 => ?_)
  refine ee_callV (as := []) (st := [.ref s0]) dD_read_119 (t_fD_readStream l0 w) my_fD_readStream.1 (Nat.le_of_ble_eq_true rfl) my_fD_readStream.2 rfl cf_10.1 rfl (p_obj_eq.mp ho119) gw_1528 gw_1530 gw_39 ⟨Nat.le_of_ble_eq_true rfl, Nat.le_of_ble_eq_true rfl⟩ (Nat.le_of_ble_eq_true rfl) (fun rv119 w119 _ => ?_)
  refine ee_kI (fun v119 => ?_)
  refine ee_if_eq (tgt := 129) dD_read_122 (by decide) (fun h122 => ?_) (fun h122 => ?_)
  · refine ee_iconst (v := (0 : Int32)) dD_read_129 (by decide) ?_
    exact t_fD_read_130 _ _ _ w119
  · refine ee_iconst (v := (1 : Int32)) dD_read_125 (by decide) ?_
    refine ee_goto (tgt := 130) dD_read_126 (by decide) ?_
    exact t_fD_read_130 _ _ _ w119
def fD_read_7 : Nat → Nat → Int32 → PW → PX
  | 0, _, _, _ => none
  | n9 + 1, l0, l1, w => (p_getI w l0 10 22).bind fun v9 => if v9 ≤ l1 then ((p_getI w l0 10 22).bind fun v35 => (p_put w l0 10 24 (.int v35)).bind fun w38 => (p_obj w38 l0 10).bind fun _ => p_call (fD_begin l0 (125 : Int32) w38) <| p_kV fun w44 => (p_getR w44 l0 10 4).bind fun v48 => (p_ast w44 v48 2 (125 : Int32) (vp_nar .boolean (0 : Int32))).bind fun w54 => (p_getR w54 l0 10 5).bind fun v56 => (p_ast w54 v56 2 (125 : Int32) (vp_nar .boolean (0 : Int32))).bind fun w62 => (p_put w62 l0 10 26 (.int (-1 : Int32))).bind fun w65 => (p_put w65 l0 10 27 (.int (0 : Int32))).bind fun w70 => (p_put w70 l0 10 30 (.int (0 : Int32))).bind fun w75 => (p_put w75 l0 10 41 (.int (-1 : Int32))).bind fun w80 => (p_put w80 l0 10 39 (.int (0 : Int32))).bind fun w85 => (p_getI w85 l0 10 24).bind fun v90 => (p_put w85 l0 10 40 (.int v90)).bind fun w93 => (p_getI w93 l0 10 24).bind fun v100 => (p_obj w93 l0 10).bind fun _ => p_call (fD_isMark l0 (0 : Int32) v100 (79 : Int32) w93) <| p_kI fun v105 w105 => if ¬ v105 = 0 then (fD_read_118 l0 l0 w105) else ((p_obj w105 l0 10).bind fun _ => p_call (fD_readBoxes l0 w105) <| p_kI fun v112 w112 => if v112 = 0 then (fD_read_130 l0 (0 : Int32) l0 w112) else (fD_read_118 l0 l0 w112))) else ((p_getR w l0 10 23).bind fun v16 => (p_getR w l0 10 21).bind fun v21 => (p_ald w v21 0 l1).bind fun v25 => (p_ast w v16 0 l1 v25).bind fun w26 => p_let (l1 + (1 : Int32)) fun (l1_27 : Int32) => (fD_read_7 n9) l0 l1_27 w26)
set_option maxRecDepth 20000 in
set_option maxHeartbeats 2000000 in
theorem t_fD_read_7 {Γ : PG} : ∀ (n9 : Nat) (l0 : Nat) (l1 : Int32) (w : PW), EE Γ MD_read 7 [(0, .ref l0), (1, .int l1)] [] w (fD_read_7 n9 l0 l1 w) := by
  intro n9
  induction n9 with
  | zero => intro l0 l1 w; exact ee_none
  | succ n9 ih =>
    intro l0 l1 w
    unfold fD_read_7
    refine ee_iload_n 1 dD_read_7 rfl ?_
    refine ee_aload_n 0 dD_read_8 rfl ?_
    refine ee_getI dD_read_9 lfD_255 (fun v9 _ => ?_)
    refine ee_icmp_ge (tgt := 33) dD_read_12 (by decide) (fun h12 => ?_) (fun h12 => ?_)
    · refine ee_aload_n 0 dD_read_33 rfl ?_
      refine ee_aload_n 0 dD_read_34 rfl ?_
      refine ee_getI dD_read_35 lfD_255 (fun v35 _ => ?_)
      refine ee_put dD_read_38 lpD_289 (ee_nI _) (fun w38 _ => ?_)
      refine ee_aload_n 0 dD_read_41 rfl ?_
      refine ee_bipush (v := (125 : Int32)) dD_read_42 (by decide) ?_
      refine ee_bind (fun _ ho44 => ?_)
      refine ee_callV (as := [.int (125 : Int32)]) (st := []) dD_read_44 (t_fD_begin l0 (125 : Int32) w38) my_fD_begin.1 (Nat.le_of_ble_eq_true rfl) my_fD_begin.2 rfl cf_10.1 rfl (p_obj_eq.mp ho44) gw_1166 gw_1168 gw_8 ⟨Nat.le_of_ble_eq_true rfl, Nat.le_of_ble_eq_true rfl⟩ (Nat.le_of_ble_eq_true rfl) (fun rv44 w44 _ => ?_)
      refine ee_kV ?_
      refine ee_aload_n 0 dD_read_47 rfl ?_
      refine ee_getR dD_read_48 lfD_13 (fun v48 _ => ?_)
      refine ee_bipush (v := (125 : Int32)) dD_read_51 (by decide) ?_
      refine ee_iconst (v := (0 : Int32)) dD_read_53 (by decide) ?_
      refine ee_zast (t := 2) dD_read_54 rfl (fun w54 _ => ?_)
      refine ee_aload_n 0 dD_read_55 rfl ?_
      refine ee_getR dD_read_56 lfD_17 (fun v56 _ => ?_)
      refine ee_bipush (v := (125 : Int32)) dD_read_59 (by decide) ?_
      refine ee_iconst (v := (0 : Int32)) dD_read_61 (by decide) ?_
      refine ee_zast (t := 2) dD_read_62 rfl (fun w62 _ => ?_)
      refine ee_aload_n 0 dD_read_63 rfl ?_
      refine ee_iconst (v := (-1 : Int32)) dD_read_64 (by decide) ?_
      refine ee_put dD_read_65 lpD_283 (ee_nI _) (fun w65 _ => ?_)
      refine ee_aload_n 0 dD_read_68 rfl ?_
      refine ee_iconst (v := (0 : Int32)) dD_read_69 (by decide) ?_
      refine ee_put dD_read_70 lpD_269 (ee_nI _) (fun w70 _ => ?_)
      refine ee_aload_n 0 dD_read_73 rfl ?_
      refine ee_iconst (v := (0 : Int32)) dD_read_74 (by decide) ?_
      refine ee_put dD_read_75 lpD_349 (ee_nI _) (fun w75 _ => ?_)
      refine ee_aload_n 0 dD_read_78 rfl ?_
      refine ee_iconst (v := (-1 : Int32)) dD_read_79 (by decide) ?_
      refine ee_put dD_read_80 lpD_258 (ee_nI _) (fun w80 _ => ?_)
      refine ee_aload_n 0 dD_read_83 rfl ?_
      refine ee_iconst (v := (0 : Int32)) dD_read_84 (by decide) ?_
      refine ee_put dD_read_85 lpD_301 (ee_nI _) (fun w85 _ => ?_)
      refine ee_aload_n 0 dD_read_88 rfl ?_
      refine ee_aload_n 0 dD_read_89 rfl ?_
      refine ee_getI dD_read_90 lfD_289 (fun v90 _ => ?_)
      refine ee_put dD_read_93 lpD_304 (ee_nI _) (fun w93 _ => ?_)
      refine ee_aload_n 0 dD_read_96 rfl ?_
      refine ee_aload_n 0 dD_read_97 rfl ?_
      refine ee_iconst (v := (0 : Int32)) dD_read_98 (by decide) ?_
      refine ee_aload_n 0 dD_read_99 rfl ?_
      refine ee_getI dD_read_100 lfD_289 (fun v100 _ => ?_)
      refine ee_bipush (v := (79 : Int32)) dD_read_103 (by decide) ?_
      refine ee_bind (fun _ ho105 => ?_)
      refine ee_callV (as := [.int (0 : Int32), .int v100, .int (79 : Int32)]) (st := [.ref l0]) dD_read_105 (t_fD_isMark l0 (0 : Int32) v100 (79 : Int32) w93) my_fD_isMark.1 (Nat.le_of_ble_eq_true rfl) my_fD_isMark.2 rfl cf_10.1 rfl (p_obj_eq.mp ho105) gw_1487 gw_1489 gw_31 ⟨Nat.le_of_ble_eq_true rfl, Nat.le_of_ble_eq_true rfl⟩ (Nat.le_of_ble_eq_true rfl) (fun rv105 w105 _ => ?_)
      refine ee_kI (fun v105 => ?_)
      refine ee_if_ne (tgt := 118) dD_read_108 (by decide) (fun h108 => ?_) (fun h108 => ?_)
      · refine ee_pick [0] rfl ?_
        exact t_fD_read_118 _ _ w105
      · refine ee_aload_n 0 dD_read_111 rfl ?_
        refine ee_bind (fun _ ho112 => ?_)
        refine ee_callV (as := []) (st := [.ref l0]) dD_read_112 (t_fD_readBoxes l0 w105) my_fD_readBoxes.1 (Nat.le_of_ble_eq_true rfl) my_fD_readBoxes.2 rfl cf_10.1 rfl (p_obj_eq.mp ho112) gw_1491 gw_1493 gw_32 ⟨Nat.le_of_ble_eq_true rfl, Nat.le_of_ble_eq_true rfl⟩ (Nat.le_of_ble_eq_true rfl) (fun rv112 w112 _ => ?_)
        refine ee_kI (fun v112 => ?_)
        refine ee_if_eq (tgt := 129) dD_read_115 (by decide) (fun h115 => ?_) (fun h115 => ?_)
        · refine ee_iconst (v := (0 : Int32)) dD_read_129 (by decide) ?_
          refine ee_pick [0] rfl ?_
          exact t_fD_read_130 _ _ _ w112
        · refine ee_pick [0] rfl ?_
          exact t_fD_read_118 _ _ w112
    · refine ee_aload_n 0 dD_read_15 rfl ?_
      refine ee_getR dD_read_16 lfD_60 (fun v16 _ => ?_)
      refine ee_iload_n 1 dD_read_19 rfl ?_
      refine ee_aload_n 0 dD_read_20 rfl ?_
      refine ee_getR dD_read_21 lfD_57 (fun v21 _ => ?_)
      refine ee_iload_n 1 dD_read_24 rfl ?_
      refine ee_iald (t := 0) dD_read_25 rfl (fun v25 _ => ?_)
      refine ee_iast (t := 0) dD_read_26 rfl (fun w26 _ => ?_)
      refine ee_iinc 1 dD_read_27 rfl (e := (1 : Int32)) (by decide) (Nat.le_of_ble_eq_true rfl) (fun l1_27 _ => ?_)
      refine ee_lv (lv2 := [(1, .int l1_27), (0, .ref l0)]) rfl ?_
      refine ee_goto (tgt := 7) dD_read_30 (by decide) ?_
      refine ee_pick [1, 0] rfl ?_
      exact ih _ _ w26
def fD_read (l0 : Nat) (w : PW) : PX := (p_put w l0 10 0 (.int (0 : Int32))).bind fun w2 => fD_read_7 FUEL l0 (0 : Int32) w2
set_option maxRecDepth 20000 in
set_option maxHeartbeats 2000000 in
theorem t_fD_read {Γ : PG} : ∀ (l0 : Nat) (w : PW), EE Γ MD_read 0 (lv_args 0 [.ref l0]) [] w (fD_read l0 w) := by
  intro l0 w
  unfold fD_read
  show EE Γ MD_read 0 [(0, .ref l0)] [] w _
  refine ee_aload_n 0 dD_read_0 rfl ?_
  refine ee_iconst (v := (0 : Int32)) dD_read_1 (by decide) ?_
  refine ee_put dD_read_2 lpD_110 (ee_nI _) (fun w2 _ => ?_)
  refine ee_iconst (v := (0 : Int32)) dD_read_5 (by decide) ?_
  refine ee_istore_n (lv2 := [(1, .int (0 : Int32)), (0, .ref l0)]) dD_read_6 (Nat.le_of_ble_eq_true rfl) rfl ?_
  refine ee_pick [1, 0] rfl ?_
  exact t_fD_read_7 FUEL _ _ w2
def fD_at_182 (l0 : Nat) (l1 : Int32) (l3 : Int32) (w : PW) : PX := if ¬ l1 = (3 : Int32) then ((p_getI w l0 10 26).bind fun v199 => some (.inl (some (.int v199)), w)) else ((p_getR w l0 10 6).bind fun v188 => (p_ald w v188 0 ((4 : Int32) + l3)).bind fun v194 => some (.inl (some (.int v194)), w))
set_option maxRecDepth 20000 in
set_option maxHeartbeats 2000000 in
theorem t_fD_at_182 {Γ : PG} : ∀ (l0 : Nat) (l1 : Int32) (l3 : Int32) (w : PW), EE Γ MD_at 182 [(0, .ref l0), (1, .int l1), (3, .int l3)] [] w (fD_at_182 l0 l1 l3 w) := by
  intro l0 l1 l3 w
  unfold fD_at_182
  refine ee_iload_n 1 dD_at_182 rfl ?_
  refine ee_iconst (v := (3 : Int32)) dD_at_183 (by decide) ?_
  refine ee_icmp_ne (tgt := 198) dD_at_184 (by decide) (fun h184 => ?_) (fun h184 => ?_)
  · refine ee_aload_n 0 dD_at_198 rfl ?_
    refine ee_getI dD_at_199 lfD_283 (fun v199 _ => ?_)
    exact ee_iret rfl dD_at_202
  · refine ee_aload_n 0 dD_at_187 rfl ?_
    refine ee_getR dD_at_188 lfD_20 (fun v188 _ => ?_)
    refine ee_iconst (v := (4 : Int32)) dD_at_191 (by decide) ?_
    refine ee_iload_n 2 dD_at_192 rfl ?_
    refine ee_iadd dD_at_193 ?_
    refine ee_iald (t := 0) dD_at_194 rfl (fun v194 _ => ?_)
    refine ee_goto (tgt := 202) dD_at_195 (by decide) ?_
    exact ee_iret rfl dD_at_202
def fD_at_219 (l1 : Int32) (s0 : Int32) (s1 : Int32) (s2 : Int32) (s3 : Int32) (s4 : Nat) (s5 : Nat) (w : PW) : PX := (p_obj w s4 10).bind fun _ => p_call (fD_force s4 s3 s2 s1 s0 w) <| p_kI fun v219 w219 => (p_obj w219 s5 10).bind fun _ => p_call (fD_get s5 v219 l1 w219) <| p_kI fun v223 w223 => some (.inl (some (.int v223)), w223)
set_option maxRecDepth 20000 in
set_option maxHeartbeats 2000000 in
theorem t_fD_at_219 {Γ : PG} : ∀ (l1 : Int32) (s0 : Int32) (s1 : Int32) (s2 : Int32) (s3 : Int32) (s4 : Nat) (s5 : Nat) (w : PW), EE Γ MD_at 219 [(1, .int l1)] [.int s0, .int s1, .int s2, .int s3, .ref s4, .ref s5] w (fD_at_219 l1 s0 s1 s2 s3 s4 s5 w) := by
  intro l1 s0 s1 s2 s3 s4 s5 w
  unfold fD_at_219
  refine ee_bind (fun _ ho219 => ?_)
  refine ee_callV (as := [.int s3, .int s2, .int s1, .int s0]) (st := [.ref s5]) dD_at_219 (t_fD_force s4 s3 s2 s1 s0 w) my_fD_force.1 (Nat.le_of_ble_eq_true rfl) my_fD_force.2 rfl cf_10.1 rfl (p_obj_eq.mp ho219) gw_1352 gw_1354 gw_14 ⟨Nat.le_of_ble_eq_true rfl, Nat.le_of_ble_eq_true rfl⟩ (Nat.le_of_ble_eq_true rfl) (fun rv219 w219 _ => ?_)
  refine ee_kI (fun v219 => ?_)
  refine ee_iload_n 0 dD_at_222 rfl ?_
  refine ee_bind (fun _ ho223 => ?_)
  refine ee_callV (as := [.int v219, .int l1]) (st := []) dD_at_223 (t_fD_get s5 v219 l1 w219) my_fD_get.1 (Nat.le_of_ble_eq_true rfl) my_fD_get.2 rfl cf_10.1 rfl (p_obj_eq.mp ho223) gw_1366 gw_1368 gw_16 ⟨Nat.le_of_ble_eq_true rfl, Nat.le_of_ble_eq_true rfl⟩ (Nat.le_of_ble_eq_true rfl) (fun rv223 w223 _ => ?_)
  refine ee_kI (fun v223 => ?_)
  exact ee_iret rfl dD_at_226
def fD_at_145 (l0 : Nat) (l1 : Int32) (l2 : Int32) (l3 : Int32) (s0 : Int32) (s1 : Nat) (w : PW) : PX := (p_put w s1 10 0 (.int s0)).bind fun w145 => (p_getI w145 l0 10 0).bind fun v149 => if v149 ≤ 0 then (if (3 : Int32) ≤ l1 then (if l1 = (3 : Int32) then (fD_at_182 l0 l1 l3 w145) else (if ¬ l1 = (11 : Int32) then (if l1 ≤ (5 : Int32) then (fD_at_219 l1 (-1 : Int32) l2 l1 (125 : Int32) l0 l0 w145) else (fD_at_219 l1 l3 l2 l1 (125 : Int32) l0 l0 w145)) else (fD_at_182 l0 l1 l3 w145))) else ((p_getR w145 l0 10 7).bind fun v163 => (p_ald w145 v163 0 ((5 : Int32) + l1)).bind fun v169 => some (.inl (some (.int v169)), w145))) else (some (.inl (some (.int (0 : Int32))), w145))
set_option maxRecDepth 20000 in
set_option maxHeartbeats 2000000 in
theorem t_fD_at_145 {Γ : PG} : ∀ (l0 : Nat) (l1 : Int32) (l2 : Int32) (l3 : Int32) (s0 : Int32) (s1 : Nat) (w : PW), EE Γ MD_at 145 [(0, .ref l0), (1, .int l1), (2, .int l2), (3, .int l3)] [.int s0, .ref s1] w (fD_at_145 l0 l1 l2 l3 s0 s1 w) := by
  intro l0 l1 l2 l3 s0 s1 w
  unfold fD_at_145
  refine ee_put dD_at_145 lpD_110 (ee_nI _) (fun w145 _ => ?_)
  refine ee_aload_n 0 dD_at_148 rfl ?_
  refine ee_getI dD_at_149 lfD_110 (fun v149 _ => ?_)
  refine ee_if_le (tgt := 157) dD_at_152 (by decide) (fun h152 => ?_) (fun h152 => ?_)
  · refine ee_iload_n 1 dD_at_157 rfl ?_
    refine ee_iconst (v := (3 : Int32)) dD_at_158 (by decide) ?_
    refine ee_icmp_ge (tgt := 171) dD_at_159 (by decide) (fun h159 => ?_) (fun h159 => ?_)
    · refine ee_iload_n 1 dD_at_171 rfl ?_
      refine ee_iconst (v := (3 : Int32)) dD_at_172 (by decide) ?_
      refine ee_icmp_eq (tgt := 182) dD_at_173 (by decide) (fun h173 => ?_) (fun h173 => ?_)
      · refine ee_pick [0, 1, 3] rfl ?_
        exact t_fD_at_182 _ _ _ w145
      · refine ee_iload_n 1 dD_at_176 rfl ?_
        refine ee_bipush (v := (11 : Int32)) dD_at_177 (by decide) ?_
        refine ee_icmp_ne (tgt := 203) dD_at_179 (by decide) (fun h179 => ?_) (fun h179 => ?_)
        · refine ee_aload_n 0 dD_at_203 rfl ?_
          refine ee_aload_n 0 dD_at_204 rfl ?_
          refine ee_bipush (v := (125 : Int32)) dD_at_205 (by decide) ?_
          refine ee_iload_n 1 dD_at_207 rfl ?_
          refine ee_iload_n 2 dD_at_208 rfl ?_
          refine ee_iload_n 1 dD_at_209 rfl ?_
          refine ee_iconst (v := (5 : Int32)) dD_at_210 (by decide) ?_
          refine ee_icmp_le (tgt := 218) dD_at_211 (by decide) (fun h211 => ?_) (fun h211 => ?_)
          · refine ee_iconst (v := (-1 : Int32)) dD_at_218 (by decide) ?_
            refine ee_pick [1] rfl ?_
            exact t_fD_at_219 _ _ _ _ _ _ _ w145
          · refine ee_iload_n 3 dD_at_214 rfl ?_
            refine ee_goto (tgt := 219) dD_at_215 (by decide) ?_
            refine ee_pick [1] rfl ?_
            exact t_fD_at_219 _ _ _ _ _ _ _ w145
        · refine ee_pick [0, 1, 3] rfl ?_
          exact t_fD_at_182 _ _ _ w145
    · refine ee_aload_n 0 dD_at_162 rfl ?_
      refine ee_getR dD_at_163 lfD_23 (fun v163 _ => ?_)
      refine ee_iconst (v := (5 : Int32)) dD_at_166 (by decide) ?_
      refine ee_iload_n 1 dD_at_167 rfl ?_
      refine ee_iadd dD_at_168 ?_
      refine ee_iald (t := 0) dD_at_169 rfl (fun v169 _ => ?_)
      exact ee_iret rfl dD_at_170
  · refine ee_iconst (v := (0 : Int32)) dD_at_155 (by decide) ?_
    exact ee_iret rfl dD_at_156
def fD_at_121 (l0 : Nat) (l1 : Int32) (l2 : Int32) (l3 : Int32) (s0 : Int32) (w : PW) : PX := (p_getI w l0 10 25).bind fun v125 => if ¬ v125 = 0 then (if ¬ s0 = 0 then (fD_at_145 l0 l1 l2 l3 (0 : Int32) l0 w) else (fD_at_145 l0 l1 l2 l3 (2 : Int32) l0 w)) else (fD_at_145 l0 l1 l2 l3 (1 : Int32) l0 w)
set_option maxRecDepth 20000 in
set_option maxHeartbeats 2000000 in
theorem t_fD_at_121 {Γ : PG} : ∀ (l0 : Nat) (l1 : Int32) (l2 : Int32) (l3 : Int32) (s0 : Int32) (w : PW), EE Γ MD_at 121 [(0, .ref l0), (1, .int l1), (2, .int l2), (3, .int l3)] [.int s0] w (fD_at_121 l0 l1 l2 l3 s0 w) := by
  intro l0 l1 l2 l3 s0 w
  unfold fD_at_121
  refine ee_istore (lv2 := [(6, .int s0), (0, .ref l0), (1, .int l1), (2, .int l2), (3, .int l3)]) dD_at_121 (Nat.le_of_ble_eq_true rfl) rfl ?_
  refine ee_aload_n 1 dD_at_123 rfl ?_
  refine ee_aload_n 1 dD_at_124 rfl ?_
  refine ee_getI dD_at_125 lfD_380 (fun v125 _ => ?_)
  refine ee_if_ne (tgt := 135) dD_at_128 (by decide) (fun h128 => ?_) (fun h128 => ?_)
  · refine ee_iload 0 dD_at_135 rfl ?_
    refine ee_if_ne (tgt := 144) dD_at_137 (by decide) (fun h137 => ?_) (fun h137 => ?_)
    · refine ee_iconst (v := (0 : Int32)) dD_at_144 (by decide) ?_
      refine ee_pick [1, 2, 3, 4] rfl ?_
      exact t_fD_at_145 _ _ _ _ _ _ w
    · refine ee_iconst (v := (2 : Int32)) dD_at_140 (by decide) ?_
      refine ee_goto (tgt := 145) dD_at_141 (by decide) ?_
      refine ee_pick [1, 2, 3, 4] rfl ?_
      exact t_fD_at_145 _ _ _ _ _ _ w
  · refine ee_iconst (v := (1 : Int32)) dD_at_131 (by decide) ?_
    refine ee_goto (tgt := 145) dD_at_132 (by decide) ?_
    refine ee_pick [1, 2, 3, 4] rfl ?_
    exact t_fD_at_145 _ _ _ _ _ _ w
def fD_at_92 (l0 : Nat) (l1 : Int32) (l2 : Int32) (l3 : Int32) (l5 : Int32) (w : PW) : PX := if l5 = 0 then (fD_at_121 l0 l1 l2 l3 (1 : Int32) w) else ((p_getR w l0 10 7).bind fun v101 => (p_ald w v101 0 (7 : Int32)).bind fun v106 => p_call (fD_in (Int32.toInt64 l3) (0 : Int64) ((Int32.toInt64 v106) - (1 : Int64)) w) <| p_kI fun v110 w110 => if v110 = 0 then (fD_at_121 l0 l1 l2 l3 (0 : Int32) w110) else (fD_at_121 l0 l1 l2 l3 (1 : Int32) w110))
set_option maxRecDepth 20000 in
set_option maxHeartbeats 2000000 in
theorem t_fD_at_92 {Γ : PG} : ∀ (l0 : Nat) (l1 : Int32) (l2 : Int32) (l3 : Int32) (l5 : Int32) (w : PW), EE Γ MD_at 92 [(0, .ref l0), (1, .int l1), (2, .int l2), (3, .int l3), (5, .int l5)] [] w (fD_at_92 l0 l1 l2 l3 l5 w) := by
  intro l0 l1 l2 l3 l5 w
  unfold fD_at_92
  refine ee_iload 4 dD_at_92 rfl ?_
  refine ee_if_eq (tgt := 116) dD_at_94 (by decide) (fun h94 => ?_) (fun h94 => ?_)
  · refine ee_iconst (v := (1 : Int32)) dD_at_116 (by decide) ?_
    refine ee_goto (tgt := 121) dD_at_117 (by decide) ?_
    refine ee_pick [0, 1, 2, 3] rfl ?_
    exact t_fD_at_121 _ _ _ _ _ w
  · refine ee_iload_n 3 dD_at_97 rfl ?_
    refine ee_i2l dD_at_98 ?_
    refine ee_lconst (v := (0 : Int64)) dD_at_99 (by decide) ?_
    refine ee_aload_n 0 dD_at_100 rfl ?_
    refine ee_getR dD_at_101 lfD_23 (fun v101 _ => ?_)
    refine ee_bipush (v := (7 : Int32)) dD_at_104 (by decide) ?_
    refine ee_iald (t := 0) dD_at_106 rfl (fun v106 _ => ?_)
    refine ee_i2l dD_at_107 ?_
    refine ee_lconst (v := (1 : Int64)) dD_at_108 (by decide) ?_
    refine ee_lsub dD_at_109 ?_
    refine ee_callS (as := [.long (Int32.toInt64 l3), .long (0 : Int64), .long ((Int32.toInt64 v106) - (1 : Int64))]) (st := []) dD_at_110 (t_fD_in (Int32.toInt64 l3) (0 : Int64) ((Int32.toInt64 v106) - (1 : Int64)) w) my_fD_in.1 (Nat.le_of_ble_eq_true rfl) my_fD_in.2 rfl gw_1320 gw_1321 ⟨Nat.le_of_ble_eq_true rfl, Nat.le_of_ble_eq_true rfl⟩ (Nat.le_of_ble_eq_true rfl) (fun rv110 w110 _ => ?_)
    refine ee_kI (fun v110 => ?_)
    refine ee_if_eq (tgt := 120) dD_at_113 (by decide) (fun h113 => ?_) (fun h113 => ?_)
    · refine ee_iconst (v := (0 : Int32)) dD_at_120 (by decide) ?_
      refine ee_pick [0, 1, 2, 3] rfl ?_
      exact t_fD_at_121 _ _ _ _ _ w110
    · refine ee_iconst (v := (1 : Int32)) dD_at_116 (by decide) ?_
      refine ee_goto (tgt := 121) dD_at_117 (by decide) ?_
      refine ee_pick [0, 1, 2, 3] rfl ?_
      exact t_fD_at_121 _ _ _ _ _ w110
def fD_at_49 (l0 : Nat) (l1 : Int32) (l2 : Int32) (l3 : Int32) (l4 : Int32) (s0 : Int32) (w : PW) : PX := (p_getI w l0 10 25).bind fun v52 => if v52 = 0 then (fD_at_121 l0 l1 l2 l3 (0 : Int32) w) else (p_call (fD_in (Int32.toInt64 l1) (0 : Int64) (11 : Int64) w) <| p_kI fun v64 w64 => if v64 = 0 then (fD_at_121 l0 l1 l2 l3 (0 : Int32) w64) else (if l4 = 0 then (fD_at_92 l0 l1 l2 l3 s0 w64) else ((p_obj w64 l0 10).bind fun _ => p_call (fD_tiles l0 (5 : Int32) w64) <| p_kI fun v80 w80 => p_call (fD_in (Int32.toInt64 l2) (0 : Int64) ((Int32.toInt64 v80) - (1 : Int64)) w80) <| p_kI fun v86 w86 => if v86 = 0 then (fD_at_121 l0 l1 l2 l3 (0 : Int32) w86) else (fD_at_92 l0 l1 l2 l3 s0 w86))))
set_option maxRecDepth 20000 in
set_option maxHeartbeats 2000000 in
theorem t_fD_at_49 {Γ : PG} : ∀ (l0 : Nat) (l1 : Int32) (l2 : Int32) (l3 : Int32) (l4 : Int32) (s0 : Int32) (w : PW), EE Γ MD_at 49 [(0, .ref l0), (1, .int l1), (2, .int l2), (3, .int l3), (4, .int l4)] [.int s0] w (fD_at_49 l0 l1 l2 l3 l4 s0 w) := by
  intro l0 l1 l2 l3 l4 s0 w
  unfold fD_at_49
  refine ee_istore (lv2 := [(5, .int s0), (0, .ref l0), (1, .int l1), (2, .int l2), (3, .int l3), (4, .int l4)]) dD_at_49 (Nat.le_of_ble_eq_true rfl) rfl ?_
  refine ee_aload_n 1 dD_at_51 rfl ?_
  refine ee_getI dD_at_52 lfD_380 (fun v52 _ => ?_)
  refine ee_if_eq (tgt := 120) dD_at_55 (by decide) (fun h55 => ?_) (fun h55 => ?_)
  · refine ee_iconst (v := (0 : Int32)) dD_at_120 (by decide) ?_
    refine ee_pick [1, 2, 3, 4] rfl ?_
    exact t_fD_at_121 _ _ _ _ _ w
  · refine ee_iload_n 2 dD_at_58 rfl ?_
    refine ee_i2l dD_at_59 ?_
    refine ee_lconst (v := (0 : Int64)) dD_at_60 (by decide) ?_
    refine ee_ldc2 (v := (11 : Int64)) dD_at_61 gw_1590 ?_
    refine ee_callS (as := [.long (Int32.toInt64 l1), .long (0 : Int64), .long (11 : Int64)]) (st := []) dD_at_64 (t_fD_in (Int32.toInt64 l1) (0 : Int64) (11 : Int64) w) my_fD_in.1 (Nat.le_of_ble_eq_true rfl) my_fD_in.2 rfl gw_1320 gw_1321 ⟨Nat.le_of_ble_eq_true rfl, Nat.le_of_ble_eq_true rfl⟩ (Nat.le_of_ble_eq_true rfl) (fun rv64 w64 _ => ?_)
    refine ee_kI (fun v64 => ?_)
    refine ee_if_eq (tgt := 120) dD_at_67 (by decide) (fun h67 => ?_) (fun h67 => ?_)
    · refine ee_iconst (v := (0 : Int32)) dD_at_120 (by decide) ?_
      refine ee_pick [1, 2, 3, 4] rfl ?_
      exact t_fD_at_121 _ _ _ _ _ w64
    · refine ee_iload 5 dD_at_70 rfl ?_
      refine ee_if_eq (tgt := 92) dD_at_72 (by decide) (fun h72 => ?_) (fun h72 => ?_)
      · refine ee_pick [1, 2, 3, 4, 0] rfl ?_
        exact t_fD_at_92 _ _ _ _ _ w64
      · refine ee_iload_n 3 dD_at_75 rfl ?_
        refine ee_i2l dD_at_76 ?_
        refine ee_lconst (v := (0 : Int64)) dD_at_77 (by decide) ?_
        refine ee_aload_n 1 dD_at_78 rfl ?_
        refine ee_iconst (v := (5 : Int32)) dD_at_79 (by decide) ?_
        refine ee_bind (fun _ ho80 => ?_)
        refine ee_callV (as := [.int (5 : Int32)]) (st := [.long (0 : Int64), .long (Int32.toInt64 l2)]) dD_at_80 (t_fD_tiles l0 (5 : Int32) w64) my_fD_tiles.1 (Nat.le_of_ble_eq_true rfl) my_fD_tiles.2 rfl cf_10.1 rfl (p_obj_eq.mp ho80) gw_1324 gw_1326 gw_11 ⟨Nat.le_of_ble_eq_true rfl, Nat.le_of_ble_eq_true rfl⟩ (Nat.le_of_ble_eq_true rfl) (fun rv80 w80 _ => ?_)
        refine ee_kI (fun v80 => ?_)
        refine ee_i2l dD_at_83 ?_
        refine ee_lconst (v := (1 : Int64)) dD_at_84 (by decide) ?_
        refine ee_lsub dD_at_85 ?_
        refine ee_callS (as := [.long (Int32.toInt64 l2), .long (0 : Int64), .long ((Int32.toInt64 v80) - (1 : Int64))]) (st := []) dD_at_86 (t_fD_in (Int32.toInt64 l2) (0 : Int64) ((Int32.toInt64 v80) - (1 : Int64)) w80) my_fD_in.1 (Nat.le_of_ble_eq_true rfl) my_fD_in.2 rfl gw_1320 gw_1321 ⟨Nat.le_of_ble_eq_true rfl, Nat.le_of_ble_eq_true rfl⟩ (Nat.le_of_ble_eq_true rfl) (fun rv86 w86 _ => ?_)
        refine ee_kI (fun v86 => ?_)
        refine ee_if_eq (tgt := 120) dD_at_89 (by decide) (fun h89 => ?_) (fun h89 => ?_)
        · refine ee_iconst (v := (0 : Int32)) dD_at_120 (by decide) ?_
          refine ee_pick [1, 2, 3, 4] rfl ?_
          exact t_fD_at_121 _ _ _ _ _ w86
        · refine ee_pick [1, 2, 3, 4, 0] rfl ?_
          exact t_fD_at_92 _ _ _ _ _ w86
def fD_at_26 (l0 : Nat) (l1 : Int32) (l2 : Int32) (l3 : Int32) (s0 : Int32) (w : PW) : PX := if l1 = (3 : Int32) then (fD_at_49 l0 l1 l2 l3 s0 (1 : Int32) w) else (if l1 ≤ (5 : Int32) then (fD_at_49 l0 l1 l2 l3 s0 (0 : Int32) w) else (if (11 : Int32) ≤ l1 then (fD_at_49 l0 l1 l2 l3 s0 (0 : Int32) w) else (fD_at_49 l0 l1 l2 l3 s0 (1 : Int32) w)))
set_option maxRecDepth 20000 in
set_option maxHeartbeats 2000000 in
theorem t_fD_at_26 {Γ : PG} : ∀ (l0 : Nat) (l1 : Int32) (l2 : Int32) (l3 : Int32) (s0 : Int32) (w : PW), EE Γ MD_at 26 [(0, .ref l0), (1, .int l1), (2, .int l2), (3, .int l3)] [.int s0] w (fD_at_26 l0 l1 l2 l3 s0 w) := by
  intro l0 l1 l2 l3 s0 w
  unfold fD_at_26
  refine ee_istore (lv2 := [(4, .int s0), (0, .ref l0), (1, .int l1), (2, .int l2), (3, .int l3)]) dD_at_26 (Nat.le_of_ble_eq_true rfl) rfl ?_
  refine ee_iload_n 2 dD_at_28 rfl ?_
  refine ee_iconst (v := (3 : Int32)) dD_at_29 (by decide) ?_
  refine ee_icmp_eq (tgt := 44) dD_at_30 (by decide) (fun h30 => ?_) (fun h30 => ?_)
  · refine ee_iconst (v := (1 : Int32)) dD_at_44 (by decide) ?_
    refine ee_goto (tgt := 49) dD_at_45 (by decide) ?_
    refine ee_pick [1, 2, 3, 4, 0] rfl ?_
    exact t_fD_at_49 _ _ _ _ _ _ w
  · refine ee_iload_n 2 dD_at_33 rfl ?_
    refine ee_iconst (v := (5 : Int32)) dD_at_34 (by decide) ?_
    refine ee_icmp_le (tgt := 48) dD_at_35 (by decide) (fun h35 => ?_) (fun h35 => ?_)
    · refine ee_iconst (v := (0 : Int32)) dD_at_48 (by decide) ?_
      refine ee_pick [1, 2, 3, 4, 0] rfl ?_
      exact t_fD_at_49 _ _ _ _ _ _ w
    · refine ee_iload_n 2 dD_at_38 rfl ?_
      refine ee_bipush (v := (11 : Int32)) dD_at_39 (by decide) ?_
      refine ee_icmp_ge (tgt := 48) dD_at_41 (by decide) (fun h41 => ?_) (fun h41 => ?_)
      · refine ee_iconst (v := (0 : Int32)) dD_at_48 (by decide) ?_
        refine ee_pick [1, 2, 3, 4, 0] rfl ?_
        exact t_fD_at_49 _ _ _ _ _ _ w
      · refine ee_iconst (v := (1 : Int32)) dD_at_44 (by decide) ?_
        refine ee_goto (tgt := 49) dD_at_45 (by decide) ?_
        refine ee_pick [1, 2, 3, 4, 0] rfl ?_
        exact t_fD_at_49 _ _ _ _ _ _ w
def fD_at_11 (l0 : Nat) (l1 : Int32) (l2 : Int32) (l3 : Int32) (w : PW) : PX := if l1 = (4 : Int32) then (fD_at_26 l0 l1 l2 l3 (1 : Int32) w) else (if ¬ l1 = (5 : Int32) then (fD_at_26 l0 l1 l2 l3 (0 : Int32) w) else (fD_at_26 l0 l1 l2 l3 (1 : Int32) w))
set_option maxRecDepth 20000 in
set_option maxHeartbeats 2000000 in
theorem t_fD_at_11 {Γ : PG} : ∀ (l0 : Nat) (l1 : Int32) (l2 : Int32) (l3 : Int32) (w : PW), EE Γ MD_at 11 [(0, .ref l0), (1, .int l1), (2, .int l2), (3, .int l3)] [] w (fD_at_11 l0 l1 l2 l3 w) := by
  intro l0 l1 l2 l3 w
  unfold fD_at_11
  refine ee_iload_n 1 dD_at_11 rfl ?_
  refine ee_iconst (v := (4 : Int32)) dD_at_12 (by decide) ?_
  refine ee_icmp_eq (tgt := 21) dD_at_13 (by decide) (fun h13 => ?_) (fun h13 => ?_)
  · refine ee_iconst (v := (1 : Int32)) dD_at_21 (by decide) ?_
    refine ee_goto (tgt := 26) dD_at_22 (by decide) ?_
    exact t_fD_at_26 _ _ _ _ _ w
  · refine ee_iload_n 1 dD_at_16 rfl ?_
    refine ee_iconst (v := (5 : Int32)) dD_at_17 (by decide) ?_
    refine ee_icmp_ne (tgt := 25) dD_at_18 (by decide) (fun h18 => ?_) (fun h18 => ?_)
    · refine ee_iconst (v := (0 : Int32)) dD_at_25 (by decide) ?_
      exact t_fD_at_26 _ _ _ _ _ w
    · refine ee_iconst (v := (1 : Int32)) dD_at_21 (by decide) ?_
      refine ee_goto (tgt := 26) dD_at_22 (by decide) ?_
      exact t_fD_at_26 _ _ _ _ _ w
def fD_at (l0 : Nat) (l1 : Int32) (l2 : Int32) (l3 : Int32) (w : PW) : PX := if l1 ≤ (5 : Int32) then (fD_at_11 l0 l1 l2 l3 w) else (if l1 < (11 : Int32) then (fD_at_26 l0 l1 l2 l3 (1 : Int32) w) else (fD_at_11 l0 l1 l2 l3 w))
set_option maxRecDepth 20000 in
set_option maxHeartbeats 2000000 in
theorem t_fD_at {Γ : PG} : ∀ (l0 : Nat) (l1 : Int32) (l2 : Int32) (l3 : Int32) (w : PW), EE Γ MD_at 0 (lv_args 0 [.ref l0, .int l1, .int l2, .int l3]) [] w (fD_at l0 l1 l2 l3 w) := by
  intro l0 l1 l2 l3 w
  unfold fD_at
  show EE Γ MD_at 0 [(0, .ref l0), (1, .int l1), (2, .int l2), (3, .int l3)] [] w _
  refine ee_iload_n 1 dD_at_0 rfl ?_
  refine ee_iconst (v := (5 : Int32)) dD_at_1 (by decide) ?_
  refine ee_icmp_le (tgt := 11) dD_at_2 (by decide) (fun h2 => ?_) (fun h2 => ?_)
  · exact t_fD_at_11 _ _ _ _ w
  · refine ee_iload_n 1 dD_at_5 rfl ?_
    refine ee_bipush (v := (11 : Int32)) dD_at_6 (by decide) ?_
    refine ee_icmp_lt (tgt := 21) dD_at_8 (by decide) (fun h8 => ?_) (fun h8 => ?_)
    · refine ee_iconst (v := (1 : Int32)) dD_at_21 (by decide) ?_
      refine ee_goto (tgt := 26) dD_at_22 (by decide) ?_
      exact t_fD_at_26 _ _ _ _ _ w
    · exact t_fD_at_11 _ _ _ _ w
def fD_part_33 (l0 : Nat) (l1 : Int32) (l2 : Int32) (s0 : Int32) (s1 : Nat) (w : PW) : PX := (p_put w s1 10 0 (.int s0)).bind fun w33 => (p_getI w33 l0 10 0).bind fun v37 => if v37 ≤ 0 then (if l2 = (0 : Int32) then ((p_getR w33 l0 10 31).bind fun v85 => (p_ald w33 v85 0 l1).bind fun v89 => some (.inl (some (.int v89)), w33)) else if l2 = (1 : Int32) then ((p_getR w33 l0 10 32).bind fun v92 => (p_ald w33 v92 0 l1).bind fun v96 => some (.inl (some (.int v96)), w33)) else if l2 = (2 : Int32) then ((p_getR w33 l0 10 34).bind fun v99 => (p_ald w33 v99 0 l1).bind fun v103 => some (.inl (some (.int v103)), w33)) else if l2 = (3 : Int32) then ((p_getR w33 l0 10 35).bind fun v106 => (p_ald w33 v106 0 l1).bind fun v110 => some (.inl (some (.int v110)), w33)) else if l2 = (4 : Int32) then ((p_getR w33 l0 10 36).bind fun v113 => (p_ald w33 v113 2 l1).bind fun v117 => if v117 = 0 then (some (.inl (some (.int (0 : Int32))), w33)) else (some (.inl (some (.int (1 : Int32))), w33))) else if l2 = (5 : Int32) then ((p_getR w33 l0 10 37).bind fun v128 => (p_ald w33 v128 2 l1).bind fun v132 => if v132 = 0 then (some (.inl (some (.int (0 : Int32))), w33)) else (some (.inl (some (.int (1 : Int32))), w33))) else (some (.inl (some (.int (-1 : Int32))), w33))) else (some (.inl (some (.int (0 : Int32))), w33))
set_option maxRecDepth 20000 in
set_option maxHeartbeats 2000000 in
theorem t_fD_part_33 {Γ : PG} : ∀ (l0 : Nat) (l1 : Int32) (l2 : Int32) (s0 : Int32) (s1 : Nat) (w : PW), EE Γ MD_part 33 [(0, .ref l0), (1, .int l1), (2, .int l2)] [.int s0, .ref s1] w (fD_part_33 l0 l1 l2 s0 s1 w) := by
  intro l0 l1 l2 s0 s1 w
  unfold fD_part_33
  refine ee_put dD_part_33 lpD_110 (ee_nI _) (fun w33 _ => ?_)
  refine ee_aload_n 0 dD_part_36 rfl ?_
  refine ee_getI dD_part_37 lfD_110 (fun v37 _ => ?_)
  refine ee_if_le (tgt := 45) dD_part_40 (by decide) (fun h40 => ?_) (fun h40 => ?_)
  · refine ee_iload_n 2 dD_part_45 rfl ?_
    refine ee_ite (fun h46_0 => ?_) (fun h46_0 => ?_)
    · refine ee_tabIn (tgt := 84) dD_part_46 (by rw [h46_0]; decide) (by rw [h46_0]; decide) (by rw [h46_0]; rfl) (by decide) ?_
      refine ee_aload_n 0 dD_part_84 rfl ?_
      refine ee_getR dD_part_85 lfD_69 (fun v85 _ => ?_)
      refine ee_iload_n 1 dD_part_88 rfl ?_
      refine ee_iald (t := 0) dD_part_89 rfl (fun v89 _ => ?_)
      exact ee_iret rfl dD_part_90
    · skip
      refine ee_ite (fun h46_1 => ?_) (fun h46_1 => ?_)
      · refine ee_tabIn (tgt := 91) dD_part_46 (by rw [h46_1]; decide) (by rw [h46_1]; decide) (by rw [h46_1]; rfl) (by decide) ?_
        refine ee_aload_n 0 dD_part_91 rfl ?_
        refine ee_getR dD_part_92 lfD_72 (fun v92 _ => ?_)
        refine ee_iload_n 1 dD_part_95 rfl ?_
        refine ee_iald (t := 0) dD_part_96 rfl (fun v96 _ => ?_)
        exact ee_iret rfl dD_part_97
      · skip
        refine ee_ite (fun h46_2 => ?_) (fun h46_2 => ?_)
        · refine ee_tabIn (tgt := 98) dD_part_46 (by rw [h46_2]; decide) (by rw [h46_2]; decide) (by rw [h46_2]; rfl) (by decide) ?_
          refine ee_aload_n 0 dD_part_98 rfl ?_
          refine ee_getR dD_part_99 lfD_78 (fun v99 _ => ?_)
          refine ee_iload_n 1 dD_part_102 rfl ?_
          refine ee_iald (t := 0) dD_part_103 rfl (fun v103 _ => ?_)
          exact ee_iret rfl dD_part_104
        · skip
          refine ee_ite (fun h46_3 => ?_) (fun h46_3 => ?_)
          · refine ee_tabIn (tgt := 105) dD_part_46 (by rw [h46_3]; decide) (by rw [h46_3]; decide) (by rw [h46_3]; rfl) (by decide) ?_
            refine ee_aload_n 0 dD_part_105 rfl ?_
            refine ee_getR dD_part_106 lfD_81 (fun v106 _ => ?_)
            refine ee_iload_n 1 dD_part_109 rfl ?_
            refine ee_iald (t := 0) dD_part_110 rfl (fun v110 _ => ?_)
            exact ee_iret rfl dD_part_111
          · skip
            refine ee_ite (fun h46_4 => ?_) (fun h46_4 => ?_)
            · refine ee_tabIn (tgt := 112) dD_part_46 (by rw [h46_4]; decide) (by rw [h46_4]; decide) (by rw [h46_4]; rfl) (by decide) ?_
              refine ee_aload_n 0 dD_part_112 rfl ?_
              refine ee_getR dD_part_113 lfD_84 (fun v113 _ => ?_)
              refine ee_iload_n 1 dD_part_116 rfl ?_
              refine ee_zald (t := 2) dD_part_117 rfl (fun v117 _ => ?_)
              refine ee_if_eq (tgt := 125) dD_part_118 (by decide) (fun h118 => ?_) (fun h118 => ?_)
              · refine ee_iconst (v := (0 : Int32)) dD_part_125 (by decide) ?_
                exact ee_iret rfl dD_part_126
              · refine ee_iconst (v := (1 : Int32)) dD_part_121 (by decide) ?_
                refine ee_goto (tgt := 126) dD_part_122 (by decide) ?_
                exact ee_iret rfl dD_part_126
            · skip
              refine ee_ite (fun h46_5 => ?_) (fun h46_5 => ?_)
              · refine ee_tabIn (tgt := 127) dD_part_46 (by rw [h46_5]; decide) (by rw [h46_5]; decide) (by rw [h46_5]; rfl) (by decide) ?_
                refine ee_aload_n 0 dD_part_127 rfl ?_
                refine ee_getR dD_part_128 lfD_87 (fun v128 _ => ?_)
                refine ee_iload_n 1 dD_part_131 rfl ?_
                refine ee_zald (t := 2) dD_part_132 rfl (fun v132 _ => ?_)
                refine ee_if_eq (tgt := 140) dD_part_133 (by decide) (fun h133 => ?_) (fun h133 => ?_)
                · refine ee_iconst (v := (0 : Int32)) dD_part_140 (by decide) ?_
                  exact ee_iret rfl dD_part_141
                · refine ee_iconst (v := (1 : Int32)) dD_part_136 (by decide) ?_
                  refine ee_goto (tgt := 141) dD_part_137 (by decide) ?_
                  exact ee_iret rfl dD_part_141
              · skip
                refine ee_tabOut (tgt := 142) dD_part_46 (by have e0 : ¬ Int32.toInt l2 = (0 : Int) := fun h => h46_0 (Int32.toInt_inj.mp (h.trans (show (0 : Int) = (0 : Int32).toInt by decide))); have e1 : ¬ Int32.toInt l2 = (1 : Int) := fun h => h46_1 (Int32.toInt_inj.mp (h.trans (show (1 : Int) = (1 : Int32).toInt by decide))); have e2 : ¬ Int32.toInt l2 = (2 : Int) := fun h => h46_2 (Int32.toInt_inj.mp (h.trans (show (2 : Int) = (2 : Int32).toInt by decide))); have e3 : ¬ Int32.toInt l2 = (3 : Int) := fun h => h46_3 (Int32.toInt_inj.mp (h.trans (show (3 : Int) = (3 : Int32).toInt by decide))); have e4 : ¬ Int32.toInt l2 = (4 : Int) := fun h => h46_4 (Int32.toInt_inj.mp (h.trans (show (4 : Int) = (4 : Int32).toInt by decide))); have e5 : ¬ Int32.toInt l2 = (5 : Int) := fun h => h46_5 (Int32.toInt_inj.mp (h.trans (show (5 : Int) = (5 : Int32).toInt by decide))); omega) (by decide) ?_
                refine ee_iconst (v := (-1 : Int32)) dD_part_142 (by decide) ?_
                exact ee_iret rfl dD_part_143
  · refine ee_iconst (v := (0 : Int32)) dD_part_43 (by decide) ?_
    exact ee_iret rfl dD_part_44
def fD_part (l0 : Nat) (l1 : Int32) (l2 : Int32) (w : PW) : PX := (p_getI w l0 10 25).bind fun v2 => if ¬ v2 = 0 then ((p_getI w l0 10 30).bind fun v16 => p_call (fD_in (Int32.toInt64 l1) (0 : Int64) ((Int32.toInt64 v16) - (1 : Int64)) w) <| p_kI fun v22 w22 => if ¬ v22 = 0 then (fD_part_33 l0 l1 l2 (0 : Int32) l0 w22) else (fD_part_33 l0 l1 l2 (2 : Int32) l0 w22)) else (fD_part_33 l0 l1 l2 (1 : Int32) l0 w)
set_option maxRecDepth 20000 in
set_option maxHeartbeats 2000000 in
theorem t_fD_part {Γ : PG} : ∀ (l0 : Nat) (l1 : Int32) (l2 : Int32) (w : PW), EE Γ MD_part 0 (lv_args 0 [.ref l0, .int l1, .int l2]) [] w (fD_part l0 l1 l2 w) := by
  intro l0 l1 l2 w
  unfold fD_part
  show EE Γ MD_part 0 [(0, .ref l0), (1, .int l1), (2, .int l2)] [] w _
  refine ee_aload_n 0 dD_part_0 rfl ?_
  refine ee_aload_n 0 dD_part_1 rfl ?_
  refine ee_getI dD_part_2 lfD_380 (fun v2 _ => ?_)
  refine ee_if_ne (tgt := 12) dD_part_5 (by decide) (fun h5 => ?_) (fun h5 => ?_)
  · refine ee_iload_n 1 dD_part_12 rfl ?_
    refine ee_i2l dD_part_13 ?_
    refine ee_lconst (v := (0 : Int64)) dD_part_14 (by decide) ?_
    refine ee_aload_n 0 dD_part_15 rfl ?_
    refine ee_getI dD_part_16 lfD_349 (fun v16 _ => ?_)
    refine ee_i2l dD_part_19 ?_
    refine ee_lconst (v := (1 : Int64)) dD_part_20 (by decide) ?_
    refine ee_lsub dD_part_21 ?_
    refine ee_callS (as := [.long (Int32.toInt64 l1), .long (0 : Int64), .long ((Int32.toInt64 v16) - (1 : Int64))]) (st := [.ref l0]) dD_part_22 (t_fD_in (Int32.toInt64 l1) (0 : Int64) ((Int32.toInt64 v16) - (1 : Int64)) w) my_fD_in.1 (Nat.le_of_ble_eq_true rfl) my_fD_in.2 rfl gw_1320 gw_1321 ⟨Nat.le_of_ble_eq_true rfl, Nat.le_of_ble_eq_true rfl⟩ (Nat.le_of_ble_eq_true rfl) (fun rv22 w22 _ => ?_)
    refine ee_kI (fun v22 => ?_)
    refine ee_if_ne (tgt := 32) dD_part_25 (by decide) (fun h25 => ?_) (fun h25 => ?_)
    · refine ee_iconst (v := (0 : Int32)) dD_part_32 (by decide) ?_
      exact t_fD_part_33 _ _ _ _ _ w22
    · refine ee_iconst (v := (2 : Int32)) dD_part_28 (by decide) ?_
      refine ee_goto (tgt := 33) dD_part_29 (by decide) ?_
      exact t_fD_part_33 _ _ _ _ _ w22
  · refine ee_iconst (v := (1 : Int32)) dD_part_8 (by decide) ?_
    refine ee_goto (tgt := 33) dD_part_9 (by decide) ?_
    exact t_fD_part_33 _ _ _ _ _ w
def fD_partByte_51 (l0 : Nat) (l1 : Int32) (l2 : Int32) (s0 : Int32) (s1 : Nat) (w : PW) : PX := (p_put w s1 10 0 (.int s0)).bind fun w51 => (p_getI w51 l0 10 0).bind fun v55 => if v55 ≤ 0 then ((p_getR w51 l0 10 23).bind fun v66 => (p_getR w51 l0 10 33).bind fun v70 => (p_ald w51 v70 0 l1).bind fun v74 => (p_ald w51 v66 0 (v74 + l2)).bind fun v77 => some (.inl (some (.int v77)), w51)) else (some (.inl (some (.int (0 : Int32))), w51))
set_option maxRecDepth 20000 in
set_option maxHeartbeats 2000000 in
theorem t_fD_partByte_51 {Γ : PG} : ∀ (l0 : Nat) (l1 : Int32) (l2 : Int32) (s0 : Int32) (s1 : Nat) (w : PW), EE Γ MD_partByte 51 [(0, .ref l0), (1, .int l1), (2, .int l2)] [.int s0, .ref s1] w (fD_partByte_51 l0 l1 l2 s0 s1 w) := by
  intro l0 l1 l2 s0 s1 w
  unfold fD_partByte_51
  refine ee_put dD_partByte_51 lpD_110 (ee_nI _) (fun w51 _ => ?_)
  refine ee_aload_n 0 dD_partByte_54 rfl ?_
  refine ee_getI dD_partByte_55 lfD_110 (fun v55 _ => ?_)
  refine ee_if_le (tgt := 65) dD_partByte_58 (by decide) (fun h58 => ?_) (fun h58 => ?_)
  · refine ee_aload_n 0 dD_partByte_65 rfl ?_
    refine ee_getR dD_partByte_66 lfD_60 (fun v66 _ => ?_)
    refine ee_aload_n 0 dD_partByte_69 rfl ?_
    refine ee_getR dD_partByte_70 lfD_75 (fun v70 _ => ?_)
    refine ee_iload_n 1 dD_partByte_73 rfl ?_
    refine ee_iald (t := 0) dD_partByte_74 rfl (fun v74 _ => ?_)
    refine ee_iload_n 2 dD_partByte_75 rfl ?_
    refine ee_iadd dD_partByte_76 ?_
    refine ee_iald (t := 0) dD_partByte_77 rfl (fun v77 _ => ?_)
    exact ee_iret rfl dD_partByte_78
  · refine ee_iconst (v := (0 : Int32)) dD_partByte_61 (by decide) ?_
    refine ee_goto (tgt := 78) dD_partByte_62 (by decide) ?_
    exact ee_iret rfl dD_partByte_78
def fD_partByte (l0 : Nat) (l1 : Int32) (l2 : Int32) (w : PW) : PX := (p_getI w l0 10 25).bind fun v2 => if ¬ v2 = 0 then ((p_getI w l0 10 30).bind fun v16 => p_call (fD_in (Int32.toInt64 l1) (0 : Int64) ((Int32.toInt64 v16) - (1 : Int64)) w) <| p_kI fun v22 w22 => if v22 = 0 then (fD_partByte_51 l0 l1 l2 (2 : Int32) l0 w22) else ((p_getR w22 l0 10 34).bind fun v32 => (p_ald w22 v32 0 l1).bind fun v36 => p_call (fD_in (Int32.toInt64 l2) (0 : Int64) ((Int32.toInt64 v36) - (1 : Int64)) w22) <| p_kI fun v40 w40 => if ¬ v40 = 0 then (fD_partByte_51 l0 l1 l2 (0 : Int32) l0 w40) else (fD_partByte_51 l0 l1 l2 (2 : Int32) l0 w40))) else (fD_partByte_51 l0 l1 l2 (1 : Int32) l0 w)
set_option maxRecDepth 20000 in
set_option maxHeartbeats 2000000 in
theorem t_fD_partByte {Γ : PG} : ∀ (l0 : Nat) (l1 : Int32) (l2 : Int32) (w : PW), EE Γ MD_partByte 0 (lv_args 0 [.ref l0, .int l1, .int l2]) [] w (fD_partByte l0 l1 l2 w) := by
  intro l0 l1 l2 w
  unfold fD_partByte
  show EE Γ MD_partByte 0 [(0, .ref l0), (1, .int l1), (2, .int l2)] [] w _
  refine ee_aload_n 0 dD_partByte_0 rfl ?_
  refine ee_aload_n 0 dD_partByte_1 rfl ?_
  refine ee_getI dD_partByte_2 lfD_380 (fun v2 _ => ?_)
  refine ee_if_ne (tgt := 12) dD_partByte_5 (by decide) (fun h5 => ?_) (fun h5 => ?_)
  · refine ee_iload_n 1 dD_partByte_12 rfl ?_
    refine ee_i2l dD_partByte_13 ?_
    refine ee_lconst (v := (0 : Int64)) dD_partByte_14 (by decide) ?_
    refine ee_aload_n 0 dD_partByte_15 rfl ?_
    refine ee_getI dD_partByte_16 lfD_349 (fun v16 _ => ?_)
    refine ee_i2l dD_partByte_19 ?_
    refine ee_lconst (v := (1 : Int64)) dD_partByte_20 (by decide) ?_
    refine ee_lsub dD_partByte_21 ?_
    refine ee_callS (as := [.long (Int32.toInt64 l1), .long (0 : Int64), .long ((Int32.toInt64 v16) - (1 : Int64))]) (st := [.ref l0]) dD_partByte_22 (t_fD_in (Int32.toInt64 l1) (0 : Int64) ((Int32.toInt64 v16) - (1 : Int64)) w) my_fD_in.1 (Nat.le_of_ble_eq_true rfl) my_fD_in.2 rfl gw_1320 gw_1321 ⟨Nat.le_of_ble_eq_true rfl, Nat.le_of_ble_eq_true rfl⟩ (Nat.le_of_ble_eq_true rfl) (fun rv22 w22 _ => ?_)
    refine ee_kI (fun v22 => ?_)
    refine ee_if_eq (tgt := 46) dD_partByte_25 (by decide) (fun h25 => ?_) (fun h25 => ?_)
    · refine ee_iconst (v := (2 : Int32)) dD_partByte_46 (by decide) ?_
      refine ee_goto (tgt := 51) dD_partByte_47 (by decide) ?_
      exact t_fD_partByte_51 _ _ _ _ _ w22
    · refine ee_iload_n 2 dD_partByte_28 rfl ?_
      refine ee_i2l dD_partByte_29 ?_
      refine ee_lconst (v := (0 : Int64)) dD_partByte_30 (by decide) ?_
      refine ee_aload_n 0 dD_partByte_31 rfl ?_
      refine ee_getR dD_partByte_32 lfD_78 (fun v32 _ => ?_)
      refine ee_iload_n 1 dD_partByte_35 rfl ?_
      refine ee_iald (t := 0) dD_partByte_36 rfl (fun v36 _ => ?_)
      refine ee_i2l dD_partByte_37 ?_
      refine ee_lconst (v := (1 : Int64)) dD_partByte_38 (by decide) ?_
      refine ee_lsub dD_partByte_39 ?_
      refine ee_callS (as := [.long (Int32.toInt64 l2), .long (0 : Int64), .long ((Int32.toInt64 v36) - (1 : Int64))]) (st := [.ref l0]) dD_partByte_40 (t_fD_in (Int32.toInt64 l2) (0 : Int64) ((Int32.toInt64 v36) - (1 : Int64)) w22) my_fD_in.1 (Nat.le_of_ble_eq_true rfl) my_fD_in.2 rfl gw_1320 gw_1321 ⟨Nat.le_of_ble_eq_true rfl, Nat.le_of_ble_eq_true rfl⟩ (Nat.le_of_ble_eq_true rfl) (fun rv40 w40 _ => ?_)
      refine ee_kI (fun v40 => ?_)
      refine ee_if_ne (tgt := 50) dD_partByte_43 (by decide) (fun h43 => ?_) (fun h43 => ?_)
      · refine ee_iconst (v := (0 : Int32)) dD_partByte_50 (by decide) ?_
        exact t_fD_partByte_51 _ _ _ _ _ w40
      · refine ee_iconst (v := (2 : Int32)) dD_partByte_46 (by decide) ?_
        refine ee_goto (tgt := 51) dD_partByte_47 (by decide) ?_
        exact t_fD_partByte_51 _ _ _ _ _ w40
  · refine ee_iconst (v := (1 : Int32)) dD_partByte_8 (by decide) ?_
    refine ee_goto (tgt := 51) dD_partByte_9 (by decide) ?_
    exact t_fD_partByte_51 _ _ _ _ _ w
def fD_unknown_42 (l0 : Nat) (l1 : Int32) (l2 : Int32) (s0 : Int32) (s1 : Nat) (w : PW) : PX := (p_put w s1 10 0 (.int s0)).bind fun w42 => (p_getI w42 l0 10 0).bind fun v46 => if v46 ≤ 0 then (if ¬ l2 = (-1 : Int32) then (if ¬ l2 = (-2 : Int32) then ((p_getR w42 l0 10 23).bind fun v91 => (p_getR w42 l0 10 28).bind fun v95 => (p_ald w42 v95 0 l1).bind fun v99 => (p_ald w42 v91 0 ((v99 + (8 : Int32)) + l2)).bind fun v105 => some (.inl (some (.int v105)), w42)) else ((p_getR w42 l0 10 29).bind fun v82 => (p_ald w42 v82 0 l1).bind fun v86 => some (.inl (some (.int v86)), w42))) else ((p_getR w42 l0 10 28).bind fun v61 => (p_ald w42 v61 0 l1).bind fun v65 => (p_obj w42 l0 10).bind fun _ => p_call (fD_four l0 (v65 + (4 : Int32)) w42) <| p_kJ fun v68 w68 => some (.inl (some (.int (Int64.toInt32 v68))), w68))) else (some (.inl (some (.int (0 : Int32))), w42))
set_option maxRecDepth 20000 in
set_option maxHeartbeats 2000000 in
theorem t_fD_unknown_42 {Γ : PG} : ∀ (l0 : Nat) (l1 : Int32) (l2 : Int32) (s0 : Int32) (s1 : Nat) (w : PW), EE Γ MD_unknown 42 [(0, .ref l0), (1, .int l1), (2, .int l2)] [.int s0, .ref s1] w (fD_unknown_42 l0 l1 l2 s0 s1 w) := by
  intro l0 l1 l2 s0 s1 w
  unfold fD_unknown_42
  refine ee_put dD_unknown_42 lpD_110 (ee_nI _) (fun w42 _ => ?_)
  refine ee_aload_n 0 dD_unknown_45 rfl ?_
  refine ee_getI dD_unknown_46 lfD_110 (fun v46 _ => ?_)
  refine ee_if_le (tgt := 54) dD_unknown_49 (by decide) (fun h49 => ?_) (fun h49 => ?_)
  · refine ee_iload_n 2 dD_unknown_54 rfl ?_
    refine ee_iconst (v := (-1 : Int32)) dD_unknown_55 (by decide) ?_
    refine ee_icmp_ne (tgt := 75) dD_unknown_56 (by decide) (fun h56 => ?_) (fun h56 => ?_)
    · refine ee_iload_n 2 dD_unknown_75 rfl ?_
      refine ee_bipush (v := (-2 : Int32)) dD_unknown_76 (by decide) ?_
      refine ee_icmp_ne (tgt := 90) dD_unknown_78 (by decide) (fun h78 => ?_) (fun h78 => ?_)
      · refine ee_aload_n 0 dD_unknown_90 rfl ?_
        refine ee_getR dD_unknown_91 lfD_60 (fun v91 _ => ?_)
        refine ee_aload_n 0 dD_unknown_94 rfl ?_
        refine ee_getR dD_unknown_95 lfD_63 (fun v95 _ => ?_)
        refine ee_iload_n 1 dD_unknown_98 rfl ?_
        refine ee_iald (t := 0) dD_unknown_99 rfl (fun v99 _ => ?_)
        refine ee_bipush (v := (8 : Int32)) dD_unknown_100 (by decide) ?_
        refine ee_iadd dD_unknown_102 ?_
        refine ee_iload_n 2 dD_unknown_103 rfl ?_
        refine ee_iadd dD_unknown_104 ?_
        refine ee_iald (t := 0) dD_unknown_105 rfl (fun v105 _ => ?_)
        exact ee_iret rfl dD_unknown_106
      · refine ee_aload_n 0 dD_unknown_81 rfl ?_
        refine ee_getR dD_unknown_82 lfD_66 (fun v82 _ => ?_)
        refine ee_iload_n 1 dD_unknown_85 rfl ?_
        refine ee_iald (t := 0) dD_unknown_86 rfl (fun v86 _ => ?_)
        refine ee_goto (tgt := 106) dD_unknown_87 (by decide) ?_
        exact ee_iret rfl dD_unknown_106
    · refine ee_aload_n 0 dD_unknown_59 rfl ?_
      refine ee_aload_n 0 dD_unknown_60 rfl ?_
      refine ee_getR dD_unknown_61 lfD_63 (fun v61 _ => ?_)
      refine ee_iload_n 1 dD_unknown_64 rfl ?_
      refine ee_iald (t := 0) dD_unknown_65 rfl (fun v65 _ => ?_)
      refine ee_iconst (v := (4 : Int32)) dD_unknown_66 (by decide) ?_
      refine ee_iadd dD_unknown_67 ?_
      refine ee_bind (fun _ ho68 => ?_)
      refine ee_callV (as := [.int (v65 + (4 : Int32))]) (st := []) dD_unknown_68 (t_fD_four l0 (v65 + (4 : Int32)) w42) my_fD_four.1 (Nat.le_of_ble_eq_true rfl) my_fD_four.2 rfl cf_10.1 rfl (p_obj_eq.mp ho68) gw_1499 gw_1501 gw_34 ⟨Nat.le_of_ble_eq_true rfl, Nat.le_of_ble_eq_true rfl⟩ (Nat.le_of_ble_eq_true rfl) (fun rv68 w68 _ => ?_)
      refine ee_kJ (fun v68 => ?_)
      refine ee_l2i dD_unknown_71 ?_
      refine ee_goto (tgt := 106) dD_unknown_72 (by decide) ?_
      exact ee_iret rfl dD_unknown_106
  · refine ee_iconst (v := (0 : Int32)) dD_unknown_52 (by decide) ?_
    exact ee_iret rfl dD_unknown_53
def fD_unknown (l0 : Nat) (l1 : Int32) (l2 : Int32) (w : PW) : PX := (p_getI w l0 10 27).bind fun v5 => p_call (fD_in (Int32.toInt64 l1) (0 : Int64) ((Int32.toInt64 v5) - (1 : Int64)) w) <| p_kI fun v11 w11 => if v11 = 0 then (fD_unknown_42 l0 l1 l2 (1 : Int32) l0 w11) else ((p_getR w11 l0 10 29).bind fun v23 => (p_ald w11 v23 0 l1).bind fun v27 => p_call (fD_in (Int32.toInt64 l2) (-2 : Int64) ((Int32.toInt64 v27) - (1 : Int64)) w11) <| p_kI fun v31 w31 => if ¬ v31 = 0 then (fD_unknown_42 l0 l1 l2 (0 : Int32) l0 w31) else (fD_unknown_42 l0 l1 l2 (1 : Int32) l0 w31))
set_option maxRecDepth 20000 in
set_option maxHeartbeats 2000000 in
theorem t_fD_unknown {Γ : PG} : ∀ (l0 : Nat) (l1 : Int32) (l2 : Int32) (w : PW), EE Γ MD_unknown 0 (lv_args 0 [.ref l0, .int l1, .int l2]) [] w (fD_unknown l0 l1 l2 w) := by
  intro l0 l1 l2 w
  unfold fD_unknown
  show EE Γ MD_unknown 0 [(0, .ref l0), (1, .int l1), (2, .int l2)] [] w _
  refine ee_aload_n 0 dD_unknown_0 rfl ?_
  refine ee_iload_n 1 dD_unknown_1 rfl ?_
  refine ee_i2l dD_unknown_2 ?_
  refine ee_lconst (v := (0 : Int64)) dD_unknown_3 (by decide) ?_
  refine ee_aload_n 0 dD_unknown_4 rfl ?_
  refine ee_getI dD_unknown_5 lfD_269 (fun v5 _ => ?_)
  refine ee_i2l dD_unknown_8 ?_
  refine ee_lconst (v := (1 : Int64)) dD_unknown_9 (by decide) ?_
  refine ee_lsub dD_unknown_10 ?_
  refine ee_callS (as := [.long (Int32.toInt64 l1), .long (0 : Int64), .long ((Int32.toInt64 v5) - (1 : Int64))]) (st := [.ref l0]) dD_unknown_11 (t_fD_in (Int32.toInt64 l1) (0 : Int64) ((Int32.toInt64 v5) - (1 : Int64)) w) my_fD_in.1 (Nat.le_of_ble_eq_true rfl) my_fD_in.2 rfl gw_1320 gw_1321 ⟨Nat.le_of_ble_eq_true rfl, Nat.le_of_ble_eq_true rfl⟩ (Nat.le_of_ble_eq_true rfl) (fun rv11 w11 _ => ?_)
  refine ee_kI (fun v11 => ?_)
  refine ee_if_eq (tgt := 37) dD_unknown_14 (by decide) (fun h14 => ?_) (fun h14 => ?_)
  · refine ee_iconst (v := (1 : Int32)) dD_unknown_37 (by decide) ?_
    refine ee_goto (tgt := 42) dD_unknown_38 (by decide) ?_
    exact t_fD_unknown_42 _ _ _ _ _ w11
  · refine ee_iload_n 2 dD_unknown_17 rfl ?_
    refine ee_i2l dD_unknown_18 ?_
    refine ee_ldc2 (v := (-2 : Int64)) dD_unknown_19 gw_1603 ?_
    refine ee_aload_n 0 dD_unknown_22 rfl ?_
    refine ee_getR dD_unknown_23 lfD_66 (fun v23 _ => ?_)
    refine ee_iload_n 1 dD_unknown_26 rfl ?_
    refine ee_iald (t := 0) dD_unknown_27 rfl (fun v27 _ => ?_)
    refine ee_i2l dD_unknown_28 ?_
    refine ee_lconst (v := (1 : Int64)) dD_unknown_29 (by decide) ?_
    refine ee_lsub dD_unknown_30 ?_
    refine ee_callS (as := [.long (Int32.toInt64 l2), .long (-2 : Int64), .long ((Int32.toInt64 v27) - (1 : Int64))]) (st := [.ref l0]) dD_unknown_31 (t_fD_in (Int32.toInt64 l2) (-2 : Int64) ((Int32.toInt64 v27) - (1 : Int64)) w11) my_fD_in.1 (Nat.le_of_ble_eq_true rfl) my_fD_in.2 rfl gw_1320 gw_1321 ⟨Nat.le_of_ble_eq_true rfl, Nat.le_of_ble_eq_true rfl⟩ (Nat.le_of_ble_eq_true rfl) (fun rv31 w31 _ => ?_)
    refine ee_kI (fun v31 => ?_)
    refine ee_if_ne (tgt := 41) dD_unknown_34 (by decide) (fun h34 => ?_) (fun h34 => ?_)
    · refine ee_iconst (v := (0 : Int32)) dD_unknown_41 (by decide) ?_
      exact t_fD_unknown_42 _ _ _ _ _ w31
    · refine ee_iconst (v := (1 : Int32)) dD_unknown_37 (by decide) ?_
      refine ee_goto (tgt := 42) dD_unknown_38 (by decide) ?_
      exact t_fD_unknown_42 _ _ _ _ _ w31
def fD_told_62 (l0 : Nat) (l1 : Int32) (l2 : Int32) (l3 : Int32) (w : PW) : PX := if l1 = (0 : Int32) then ((p_obj w l0 10).bind fun _ => p_call (fD_tiles l0 (0 : Int32) w) <| p_kI fun v114 w114 => some (.inl (some (.int v114)), w114)) else if l1 = (1 : Int32) then ((p_getI w l0 10 8).bind fun v119 => some (.inl (some (.int v119)), w)) else if l1 = (2 : Int32) then ((p_getI w l0 10 14).bind fun v124 => some (.inl (some (.int v124)), w)) else if l1 = (3 : Int32) then ((p_getI w l0 10 20).bind fun v129 => some (.inl (some (.int v129)), w)) else if l1 = (4 : Int32) then ((p_getI w l0 10 22).bind fun v134 => some (.inl (some (.int v134)), w)) else if l1 = (5 : Int32) then ((p_getI w l0 10 25).bind fun v139 => if v139 = 0 then (some (.inl (some (.int (0 : Int32))), w)) else ((p_getI w l0 10 30).bind fun v146 => some (.inl (some (.int v146)), w))) else if l1 = (6 : Int32) then ((p_getI w l0 10 27).bind fun v155 => some (.inl (some (.int v155)), w)) else if l1 = (7 : Int32) then (some (.inl (some (.int l2)), w)) else if l1 = (8 : Int32) then (some (.inl (some (.int l3)), w)) else (some (.inl (some (.int (-1 : Int32))), w))
set_option maxRecDepth 20000 in
set_option maxHeartbeats 2000000 in
theorem t_fD_told_62 {Γ : PG} : ∀ (l0 : Nat) (l1 : Int32) (l2 : Int32) (l3 : Int32) (w : PW), EE Γ MD_told 62 [(0, .ref l0), (1, .int l1), (2, .int l2), (3, .int l3)] [] w (fD_told_62 l0 l1 l2 l3 w) := by
  intro l0 l1 l2 l3 w
  unfold fD_told_62
  refine ee_iload_n 1 dD_told_62 rfl ?_
  refine ee_ite (fun h63_0 => ?_) (fun h63_0 => ?_)
  · refine ee_tabIn (tgt := 112) dD_told_63 (by rw [h63_0]; decide) (by rw [h63_0]; decide) (by rw [h63_0]; rfl) (by decide) ?_
    refine ee_aload_n 0 dD_told_112 rfl ?_
    refine ee_iconst (v := (0 : Int32)) dD_told_113 (by decide) ?_
    refine ee_bind (fun _ ho114 => ?_)
    refine ee_callV (as := [.int (0 : Int32)]) (st := []) dD_told_114 (t_fD_tiles l0 (0 : Int32) w) my_fD_tiles.1 (Nat.le_of_ble_eq_true rfl) my_fD_tiles.2 rfl cf_10.1 rfl (p_obj_eq.mp ho114) gw_1324 gw_1326 gw_11 ⟨Nat.le_of_ble_eq_true rfl, Nat.le_of_ble_eq_true rfl⟩ (Nat.le_of_ble_eq_true rfl) (fun rv114 w114 _ => ?_)
    refine ee_kI (fun v114 => ?_)
    exact ee_iret rfl dD_told_117
  · skip
    refine ee_ite (fun h63_1 => ?_) (fun h63_1 => ?_)
    · refine ee_tabIn (tgt := 118) dD_told_63 (by rw [h63_1]; decide) (by rw [h63_1]; decide) (by rw [h63_1]; rfl) (by decide) ?_
      refine ee_aload_n 0 dD_told_118 rfl ?_
      refine ee_getI dD_told_119 lfD_145 (fun v119 _ => ?_)
      exact ee_iret rfl dD_told_122
    · skip
      refine ee_ite (fun h63_2 => ?_) (fun h63_2 => ?_)
      · refine ee_tabIn (tgt := 123) dD_told_63 (by rw [h63_2]; decide) (by rw [h63_2]; decide) (by rw [h63_2]; rfl) (by decide) ?_
        refine ee_aload_n 0 dD_told_123 rfl ?_
        refine ee_getI dD_told_124 lfD_209 (fun v124 _ => ?_)
        exact ee_iret rfl dD_told_127
      · skip
        refine ee_ite (fun h63_3 => ?_) (fun h63_3 => ?_)
        · refine ee_tabIn (tgt := 128) dD_told_63 (by rw [h63_3]; decide) (by rw [h63_3]; decide) (by rw [h63_3]; rfl) (by decide) ?_
          refine ee_aload_n 0 dD_told_128 rfl ?_
          refine ee_getI dD_told_129 lfD_212 (fun v129 _ => ?_)
          exact ee_iret rfl dD_told_132
        · skip
          refine ee_ite (fun h63_4 => ?_) (fun h63_4 => ?_)
          · refine ee_tabIn (tgt := 133) dD_told_63 (by rw [h63_4]; decide) (by rw [h63_4]; decide) (by rw [h63_4]; rfl) (by decide) ?_
            refine ee_aload_n 0 dD_told_133 rfl ?_
            refine ee_getI dD_told_134 lfD_255 (fun v134 _ => ?_)
            exact ee_iret rfl dD_told_137
          · skip
            refine ee_ite (fun h63_5 => ?_) (fun h63_5 => ?_)
            · refine ee_tabIn (tgt := 138) dD_told_63 (by rw [h63_5]; decide) (by rw [h63_5]; decide) (by rw [h63_5]; rfl) (by decide) ?_
              refine ee_aload_n 0 dD_told_138 rfl ?_
              refine ee_getI dD_told_139 lfD_380 (fun v139 _ => ?_)
              refine ee_if_eq (tgt := 152) dD_told_142 (by decide) (fun h142 => ?_) (fun h142 => ?_)
              · refine ee_iconst (v := (0 : Int32)) dD_told_152 (by decide) ?_
                exact ee_iret rfl dD_told_153
              · refine ee_aload_n 0 dD_told_145 rfl ?_
                refine ee_getI dD_told_146 lfD_349 (fun v146 _ => ?_)
                refine ee_goto (tgt := 153) dD_told_149 (by decide) ?_
                exact ee_iret rfl dD_told_153
            · skip
              refine ee_ite (fun h63_6 => ?_) (fun h63_6 => ?_)
              · refine ee_tabIn (tgt := 154) dD_told_63 (by rw [h63_6]; decide) (by rw [h63_6]; decide) (by rw [h63_6]; rfl) (by decide) ?_
                refine ee_aload_n 0 dD_told_154 rfl ?_
                refine ee_getI dD_told_155 lfD_269 (fun v155 _ => ?_)
                exact ee_iret rfl dD_told_158
              · skip
                refine ee_ite (fun h63_7 => ?_) (fun h63_7 => ?_)
                · refine ee_tabIn (tgt := 159) dD_told_63 (by rw [h63_7]; decide) (by rw [h63_7]; decide) (by rw [h63_7]; rfl) (by decide) ?_
                  refine ee_iload_n 2 dD_told_159 rfl ?_
                  exact ee_iret rfl dD_told_160
                · skip
                  refine ee_ite (fun h63_8 => ?_) (fun h63_8 => ?_)
                  · refine ee_tabIn (tgt := 161) dD_told_63 (by rw [h63_8]; decide) (by rw [h63_8]; decide) (by rw [h63_8]; rfl) (by decide) ?_
                    refine ee_iload_n 3 dD_told_161 rfl ?_
                    exact ee_iret rfl dD_told_162
                  · skip
                    refine ee_tabOut (tgt := 163) dD_told_63 (by have e0 : ¬ Int32.toInt l1 = (0 : Int) := fun h => h63_0 (Int32.toInt_inj.mp (h.trans (show (0 : Int) = (0 : Int32).toInt by decide))); have e1 : ¬ Int32.toInt l1 = (1 : Int) := fun h => h63_1 (Int32.toInt_inj.mp (h.trans (show (1 : Int) = (1 : Int32).toInt by decide))); have e2 : ¬ Int32.toInt l1 = (2 : Int) := fun h => h63_2 (Int32.toInt_inj.mp (h.trans (show (2 : Int) = (2 : Int32).toInt by decide))); have e3 : ¬ Int32.toInt l1 = (3 : Int) := fun h => h63_3 (Int32.toInt_inj.mp (h.trans (show (3 : Int) = (3 : Int32).toInt by decide))); have e4 : ¬ Int32.toInt l1 = (4 : Int) := fun h => h63_4 (Int32.toInt_inj.mp (h.trans (show (4 : Int) = (4 : Int32).toInt by decide))); have e5 : ¬ Int32.toInt l1 = (5 : Int) := fun h => h63_5 (Int32.toInt_inj.mp (h.trans (show (5 : Int) = (5 : Int32).toInt by decide))); have e6 : ¬ Int32.toInt l1 = (6 : Int) := fun h => h63_6 (Int32.toInt_inj.mp (h.trans (show (6 : Int) = (6 : Int32).toInt by decide))); have e7 : ¬ Int32.toInt l1 = (7 : Int) := fun h => h63_7 (Int32.toInt_inj.mp (h.trans (show (7 : Int) = (7 : Int32).toInt by decide))); have e8 : ¬ Int32.toInt l1 = (8 : Int) := fun h => h63_8 (Int32.toInt_inj.mp (h.trans (show (8 : Int) = (8 : Int32).toInt by decide))); omega) (by decide) ?_
                    refine ee_iconst (v := (-1 : Int32)) dD_told_163 (by decide) ?_
                    exact ee_iret rfl dD_told_164
def fD_told_44 (k_12 : Nat → Int32 → Int32 → Int32 → Int32 → PW → PX) (l0 : Nat) (l1 : Int32) (l3 : Int32) (l4 : Int32) (s0 : Int32) (s1 : Int32) (w : PW) : PX := p_let ((s1 + s0)) fun (l2_45 : Int32) => (p_getR w l0 10 35).bind fun v48 => (p_ald w v48 0 l4).bind fun v53 => p_let ((l3 + v53)) fun (l3_55 : Int32) => p_let (l4 + (1 : Int32)) fun (l4_56 : Int32) => k_12 l0 l1 l2_45 l3_55 l4_56 w
set_option maxRecDepth 20000 in
set_option maxHeartbeats 2000000 in
theorem t_fD_told_44 {Γ : PG} {k_12 : Nat → Int32 → Int32 → Int32 → Int32 → PW → PX} (hk_12 : ∀ (l0 : Nat) (l1 : Int32) (l2 : Int32) (l3 : Int32) (l4 : Int32) (w : PW), EE Γ MD_told 12 [(0, .ref l0), (1, .int l1), (2, .int l2), (3, .int l3), (4, .int l4)] [] w (k_12 l0 l1 l2 l3 l4 w)) : ∀ (l0 : Nat) (l1 : Int32) (l3 : Int32) (l4 : Int32) (s0 : Int32) (s1 : Int32) (w : PW), EE Γ MD_told 44 [(0, .ref l0), (1, .int l1), (3, .int l3), (4, .int l4)] [.int s0, .int s1] w (fD_told_44 k_12 l0 l1 l3 l4 s0 s1 w) := by
  intro l0 l1 l3 l4 s0 s1 w
  unfold fD_told_44
  refine ee_iadd dD_told_44 ?_
  refine ee_letI (fun l2_45 _ => ?_)
  refine ee_istore_n (lv2 := [(2, .int l2_45), (0, .ref l0), (1, .int l1), (3, .int l3), (4, .int l4)]) dD_told_45 (Nat.le_of_ble_eq_true rfl) rfl ?_
  refine ee_iload_n 3 dD_told_46 rfl ?_
  refine ee_aload_n 1 dD_told_47 rfl ?_
  refine ee_getR dD_told_48 lfD_81 (fun v48 _ => ?_)
  refine ee_iload 4 dD_told_51 rfl ?_
  refine ee_iald (t := 0) dD_told_53 rfl (fun v53 _ => ?_)
  refine ee_iadd dD_told_54 ?_
  refine ee_letI (fun l3_55 _ => ?_)
  refine ee_istore_n (lv2 := [(3, .int l3_55), (2, .int l2_45), (0, .ref l0), (1, .int l1), (4, .int l4)]) dD_told_55 (Nat.le_of_ble_eq_true rfl) rfl ?_
  refine ee_iinc 4 dD_told_56 rfl (e := (1 : Int32)) (by decide) (Nat.le_of_ble_eq_true rfl) (fun l4_56 _ => ?_)
  refine ee_lv (lv2 := [(4, .int l4_56), (3, .int l3_55), (2, .int l2_45), (0, .ref l0), (1, .int l1)]) rfl ?_
  refine ee_goto (tgt := 12) dD_told_59 (by decide) ?_
  refine ee_pick [3, 4, 2, 1, 0] rfl ?_
  exact hk_12 _ _ _ _ _ w
def fD_told_12 : Nat → Nat → Int32 → Int32 → Int32 → Int32 → PW → PX
  | 0, _, _, _, _, _, _ => none
  | n9 + 1, l0, l1, l2, l3, l4, w => (p_getI w l0 10 30).bind fun v15 => if v15 ≤ l4 then (fD_told_62 l0 l1 l2 l3 w) else ((p_getI w l0 10 25).bind fun v22 => if v22 = 0 then (fD_told_62 l0 l1 l2 l3 w) else ((p_getR w l0 10 36).bind fun v30 => (p_ald w v30 2 l4).bind fun v35 => if v35 = 0 then (fD_told_44 (fD_told_12 n9) l0 l1 l3 l4 (0 : Int32) l2 w) else (fD_told_44 (fD_told_12 n9) l0 l1 l3 l4 (1 : Int32) l2 w)))
set_option maxRecDepth 20000 in
set_option maxHeartbeats 2000000 in
theorem t_fD_told_12 {Γ : PG} : ∀ (n9 : Nat) (l0 : Nat) (l1 : Int32) (l2 : Int32) (l3 : Int32) (l4 : Int32) (w : PW), EE Γ MD_told 12 [(0, .ref l0), (1, .int l1), (2, .int l2), (3, .int l3), (4, .int l4)] [] w (fD_told_12 n9 l0 l1 l2 l3 l4 w) := by
  intro n9
  induction n9 with
  | zero => intro l0 l1 l2 l3 l4 w; exact ee_none
  | succ n9 ih =>
    intro l0 l1 l2 l3 l4 w
    unfold fD_told_12
    refine ee_iload 4 dD_told_12 rfl ?_
    refine ee_aload_n 0 dD_told_14 rfl ?_
    refine ee_getI dD_told_15 lfD_349 (fun v15 _ => ?_)
    refine ee_icmp_ge (tgt := 62) dD_told_18 (by decide) (fun h18 => ?_) (fun h18 => ?_)
    · refine ee_pick [0, 1, 2, 3] rfl ?_
      exact t_fD_told_62 _ _ _ _ w
    · refine ee_aload_n 0 dD_told_21 rfl ?_
      refine ee_getI dD_told_22 lfD_380 (fun v22 _ => ?_)
      refine ee_if_eq (tgt := 62) dD_told_25 (by decide) (fun h25 => ?_) (fun h25 => ?_)
      · refine ee_pick [0, 1, 2, 3] rfl ?_
        exact t_fD_told_62 _ _ _ _ w
      · refine ee_iload_n 2 dD_told_28 rfl ?_
        refine ee_aload_n 0 dD_told_29 rfl ?_
        refine ee_getR dD_told_30 lfD_84 (fun v30 _ => ?_)
        refine ee_iload 4 dD_told_33 rfl ?_
        refine ee_zald (t := 2) dD_told_35 rfl (fun v35 _ => ?_)
        refine ee_if_eq (tgt := 43) dD_told_36 (by decide) (fun h36 => ?_) (fun h36 => ?_)
        · refine ee_iconst (v := (0 : Int32)) dD_told_43 (by decide) ?_
          refine ee_pick [0, 1, 3, 4] rfl ?_
          exact t_fD_told_44 ih _ _ _ _ _ _ w
        · refine ee_iconst (v := (1 : Int32)) dD_told_39 (by decide) ?_
          refine ee_goto (tgt := 44) dD_told_40 (by decide) ?_
          refine ee_pick [0, 1, 3, 4] rfl ?_
          exact t_fD_told_44 ih _ _ _ _ _ _ w
def fD_told (l0 : Nat) (l1 : Int32) (w : PW) : PX := (p_put w l0 10 0 (.int (0 : Int32))).bind fun w2 => fD_told_12 FUEL l0 l1 (0 : Int32) (0 : Int32) (0 : Int32) w2
set_option maxRecDepth 20000 in
set_option maxHeartbeats 2000000 in
theorem t_fD_told {Γ : PG} : ∀ (l0 : Nat) (l1 : Int32) (w : PW), EE Γ MD_told 0 (lv_args 0 [.ref l0, .int l1]) [] w (fD_told l0 l1 w) := by
  intro l0 l1 w
  unfold fD_told
  show EE Γ MD_told 0 [(0, .ref l0), (1, .int l1)] [] w _
  refine ee_aload_n 0 dD_told_0 rfl ?_
  refine ee_iconst (v := (0 : Int32)) dD_told_1 (by decide) ?_
  refine ee_put dD_told_2 lpD_110 (ee_nI _) (fun w2 _ => ?_)
  refine ee_iconst (v := (0 : Int32)) dD_told_5 (by decide) ?_
  refine ee_istore_n (lv2 := [(2, .int (0 : Int32)), (0, .ref l0), (1, .int l1)]) dD_told_6 (Nat.le_of_ble_eq_true rfl) rfl ?_
  refine ee_iconst (v := (0 : Int32)) dD_told_7 (by decide) ?_
  refine ee_istore_n (lv2 := [(3, .int (0 : Int32)), (2, .int (0 : Int32)), (0, .ref l0), (1, .int l1)]) dD_told_8 (Nat.le_of_ble_eq_true rfl) rfl ?_
  refine ee_iconst (v := (0 : Int32)) dD_told_9 (by decide) ?_
  refine ee_istore (lv2 := [(4, .int (0 : Int32)), (3, .int (0 : Int32)), (2, .int (0 : Int32)), (0, .ref l0), (1, .int l1)]) dD_told_10 (Nat.le_of_ble_eq_true rfl) rfl ?_
  refine ee_pick [3, 4, 2, 1, 0] rfl ?_
  exact t_fD_told_12 FUEL _ _ _ _ _ w2
