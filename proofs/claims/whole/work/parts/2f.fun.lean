def fW_nearestSide (l0 : Int32) (w : PW) : PX := some (.inl (some (.int (p_max (1 : Int32) (p_min (2000 : Int32) l0)))), w)
set_option maxRecDepth 20000 in
set_option maxHeartbeats 2000000 in
theorem t_fW_nearestSide {Γ : PG} : ∀ (l0 : Int32) (w : PW), EE Γ MW_nearestSide 0 (lv_args 0 [.int l0]) [] w (fW_nearestSide l0 w) := by
  intro l0 w
  unfold fW_nearestSide
  show EE Γ MW_nearestSide 0 [(0, .int l0)] [] w _
  refine ee_iconst (v := (1 : Int32)) dW_nearestSide_0 (by decide) ?_
  refine ee_sipush (v := (2000 : Int32)) dW_nearestSide_1 (by decide) ?_
  refine ee_iload_n 0 dW_nearestSide_4 rfl ?_
  refine ee_mmin dW_nearestSide_5 gw_299 gw_mmins gw_mi gw_mminc ⟨Nat.le_of_ble_eq_true rfl, Nat.le_of_ble_eq_true rfl⟩ ?_
  refine ee_mmax dW_nearestSide_8 gw_302 gw_mmaxs gw_mi gw_mmaxc ⟨Nat.le_of_ble_eq_true rfl, Nat.le_of_ble_eq_true rfl⟩ ?_
  exact ee_iret rfl dW_nearestSide_11
def fW_canBeSet_84 (l4 : Int32) (s0 : Int32) (w : PW) : PX := if l4 = 0 then (p_retZ (0 : Int32) w) else (if s0 = 0 then (p_retZ (0 : Int32) w) else (p_retZ (1 : Int32) w))
set_option maxRecDepth 20000 in
set_option maxHeartbeats 2000000 in
theorem t_fW_canBeSet_84 {Γ : PG} : ∀ (l4 : Int32) (s0 : Int32) (w : PW), EE Γ MW_canBeSet 84 [(4, .int l4)] [.int s0] w (fW_canBeSet_84 l4 s0 w) := by
  intro l4 s0 w
  unfold fW_canBeSet_84
  refine ee_istore (lv2 := [(6, .int s0), (4, .int l4)]) dW_canBeSet_84 (Nat.le_of_ble_eq_true rfl) rfl ?_
  refine ee_iload 1 dW_canBeSet_86 rfl ?_
  refine ee_if_eq (tgt := 100) dW_canBeSet_88 (by decide) (fun h88 => ?_) (fun h88 => ?_)
  · refine ee_iconst (v := (0 : Int32)) dW_canBeSet_100 (by decide) ?_
    exact ee_zret rfl dW_canBeSet_101
  · refine ee_iload 0 dW_canBeSet_91 rfl ?_
    refine ee_if_eq (tgt := 100) dW_canBeSet_93 (by decide) (fun h93 => ?_) (fun h93 => ?_)
    · refine ee_iconst (v := (0 : Int32)) dW_canBeSet_100 (by decide) ?_
      exact ee_zret rfl dW_canBeSet_101
    · refine ee_iconst (v := (1 : Int32)) dW_canBeSet_96 (by decide) ?_
      refine ee_goto (tgt := 101) dW_canBeSet_97 (by decide) ?_
      exact ee_zret rfl dW_canBeSet_101
def fW_canBeSet_56 (l0 : Nat) (l3 : Int32) (l4 : Int32) (s0 : Int32) (w : PW) : PX := if l3 = (-1 : Int32) then (fW_canBeSet_84 l4 (1 : Int32) w) else (if s0 = 0 then (fW_canBeSet_84 l4 (0 : Int32) w) else ((p_getR w l0 0 0).bind fun v69 => (p_obj w v69 7).bind fun _ => p_call (fSettings_isComponent v69 l3 w) <| p_kI fun v73 w73 => if v73 = 0 then (fW_canBeSet_84 l4 (0 : Int32) w73) else (fW_canBeSet_84 l4 (1 : Int32) w73)))
set_option maxRecDepth 20000 in
set_option maxHeartbeats 2000000 in
theorem t_fW_canBeSet_56 {Γ : PG} : ∀ (l0 : Nat) (l3 : Int32) (l4 : Int32) (s0 : Int32) (w : PW), EE Γ MW_canBeSet 56 [(0, .ref l0), (3, .int l3), (4, .int l4)] [.int s0] w (fW_canBeSet_56 l0 l3 l4 s0 w) := by
  intro l0 l3 l4 s0 w
  unfold fW_canBeSet_56
  refine ee_istore (lv2 := [(5, .int s0), (0, .ref l0), (3, .int l3), (4, .int l4)]) dW_canBeSet_56 (Nat.le_of_ble_eq_true rfl) rfl ?_
  refine ee_iload_n 2 dW_canBeSet_58 rfl ?_
  refine ee_iconst (v := (-1 : Int32)) dW_canBeSet_59 (by decide) ?_
  refine ee_icmp_eq (tgt := 79) dW_canBeSet_60 (by decide) (fun h60 => ?_) (fun h60 => ?_)
  · refine ee_iconst (v := (1 : Int32)) dW_canBeSet_79 (by decide) ?_
    refine ee_goto (tgt := 84) dW_canBeSet_80 (by decide) ?_
    refine ee_pick [3] rfl ?_
    exact t_fW_canBeSet_84 _ _ w
  · refine ee_iload 0 dW_canBeSet_63 rfl ?_
    refine ee_if_eq (tgt := 83) dW_canBeSet_65 (by decide) (fun h65 => ?_) (fun h65 => ?_)
    · refine ee_iconst (v := (0 : Int32)) dW_canBeSet_83 (by decide) ?_
      refine ee_pick [3] rfl ?_
      exact t_fW_canBeSet_84 _ _ w
    · refine ee_aload_n 1 dW_canBeSet_68 rfl ?_
      refine ee_getR dW_canBeSet_69 lfW_10 (fun v69 _ => ?_)
      refine ee_iload_n 2 dW_canBeSet_72 rfl ?_
      refine ee_bind (fun _ ho73 => ?_)
      refine ee_callV (as := [.int l3]) (st := []) dW_canBeSet_73 (t_fSettings_isComponent v69 l3 w) my_fSettings_isComponent.1 (Nat.le_of_ble_eq_true rfl) my_fSettings_isComponent.2 rfl cf_7.1 rfl (p_obj_eq.mp ho73) gw_754 gw_657 gw_658 ⟨Nat.le_of_ble_eq_true rfl, Nat.le_of_ble_eq_true rfl⟩ (Nat.le_of_ble_eq_true rfl) (fun rv73 w73 _ => ?_)
      refine ee_kI (fun v73 => ?_)
      refine ee_if_eq (tgt := 83) dW_canBeSet_76 (by decide) (fun h76 => ?_) (fun h76 => ?_)
      · refine ee_iconst (v := (0 : Int32)) dW_canBeSet_83 (by decide) ?_
        refine ee_pick [3] rfl ?_
        exact t_fW_canBeSet_84 _ _ w73
      · refine ee_iconst (v := (1 : Int32)) dW_canBeSet_79 (by decide) ?_
        refine ee_goto (tgt := 84) dW_canBeSet_80 (by decide) ?_
        refine ee_pick [3] rfl ?_
        exact t_fW_canBeSet_84 _ _ w73
def fW_canBeSet_38 (l0 : Nat) (l1 : Int32) (l3 : Int32) (s0 : Int32) (w : PW) : PX := if l1 = (3 : Int32) then (fW_canBeSet_56 l0 l3 s0 (1 : Int32) w) else (if l1 < (6 : Int32) then (fW_canBeSet_56 l0 l3 s0 (0 : Int32) w) else (fW_canBeSet_56 l0 l3 s0 (1 : Int32) w))
set_option maxRecDepth 20000 in
set_option maxHeartbeats 2000000 in
theorem t_fW_canBeSet_38 {Γ : PG} : ∀ (l0 : Nat) (l1 : Int32) (l3 : Int32) (s0 : Int32) (w : PW), EE Γ MW_canBeSet 38 [(0, .ref l0), (1, .int l1), (3, .int l3)] [.int s0] w (fW_canBeSet_38 l0 l1 l3 s0 w) := by
  intro l0 l1 l3 s0 w
  unfold fW_canBeSet_38
  refine ee_istore (lv2 := [(4, .int s0), (0, .ref l0), (1, .int l1), (3, .int l3)]) dW_canBeSet_38 (Nat.le_of_ble_eq_true rfl) rfl ?_
  refine ee_iload_n 2 dW_canBeSet_40 rfl ?_
  refine ee_iconst (v := (3 : Int32)) dW_canBeSet_41 (by decide) ?_
  refine ee_icmp_eq (tgt := 51) dW_canBeSet_42 (by decide) (fun h42 => ?_) (fun h42 => ?_)
  · refine ee_iconst (v := (1 : Int32)) dW_canBeSet_51 (by decide) ?_
    refine ee_goto (tgt := 56) dW_canBeSet_52 (by decide) ?_
    refine ee_pick [1, 3, 0] rfl ?_
    exact t_fW_canBeSet_56 _ _ _ _ w
  · refine ee_iload_n 2 dW_canBeSet_45 rfl ?_
    refine ee_bipush (v := (6 : Int32)) dW_canBeSet_46 (by decide) ?_
    refine ee_icmp_lt (tgt := 55) dW_canBeSet_48 (by decide) (fun h48 => ?_) (fun h48 => ?_)
    · refine ee_iconst (v := (0 : Int32)) dW_canBeSet_55 (by decide) ?_
      refine ee_pick [1, 3, 0] rfl ?_
      exact t_fW_canBeSet_56 _ _ _ _ w
    · refine ee_iconst (v := (1 : Int32)) dW_canBeSet_51 (by decide) ?_
      refine ee_goto (tgt := 56) dW_canBeSet_52 (by decide) ?_
      refine ee_pick [1, 3, 0] rfl ?_
      exact t_fW_canBeSet_56 _ _ _ _ w
def fW_canBeSet (l0 : Nat) (l1 : Int32) (l2 : Int32) (l3 : Int32) (w : PW) : PX := if l1 < 0 then (p_retZ (0 : Int32) w) else (if l1 ≤ (10 : Int32) then (if l2 = (-1 : Int32) then (fW_canBeSet_38 l0 l1 l3 (1 : Int32) w) else (if l1 < (4 : Int32) then (fW_canBeSet_38 l0 l1 l3 (0 : Int32) w) else ((p_getR w l0 0 0).bind fun v23 => (p_obj w v23 7).bind fun _ => p_call (fSettings_isTile v23 l2 w) <| p_kI fun v27 w27 => if v27 = 0 then (fW_canBeSet_38 l0 l1 l3 (0 : Int32) w27) else (fW_canBeSet_38 l0 l1 l3 (1 : Int32) w27)))) else (p_retZ (0 : Int32) w))
set_option maxRecDepth 20000 in
set_option maxHeartbeats 2000000 in
theorem t_fW_canBeSet {Γ : PG} : ∀ (l0 : Nat) (l1 : Int32) (l2 : Int32) (l3 : Int32) (w : PW), EE Γ MW_canBeSet 0 (lv_args 0 [.ref l0, .int l1, .int l2, .int l3]) [] w (fW_canBeSet l0 l1 l2 l3 w) := by
  intro l0 l1 l2 l3 w
  unfold fW_canBeSet
  show EE Γ MW_canBeSet 0 [(0, .ref l0), (1, .int l1), (2, .int l2), (3, .int l3)] [] w _
  refine ee_iload_n 1 dW_canBeSet_0 rfl ?_
  refine ee_if_lt (tgt := 10) dW_canBeSet_1 (by decide) (fun h1 => ?_) (fun h1 => ?_)
  · refine ee_iconst (v := (0 : Int32)) dW_canBeSet_10 (by decide) ?_
    exact ee_zret rfl dW_canBeSet_11
  · refine ee_iload_n 1 dW_canBeSet_4 rfl ?_
    refine ee_bipush (v := (10 : Int32)) dW_canBeSet_5 (by decide) ?_
    refine ee_icmp_le (tgt := 12) dW_canBeSet_7 (by decide) (fun h7 => ?_) (fun h7 => ?_)
    · refine ee_iload_n 2 dW_canBeSet_12 rfl ?_
      refine ee_iconst (v := (-1 : Int32)) dW_canBeSet_13 (by decide) ?_
      refine ee_icmp_eq (tgt := 33) dW_canBeSet_14 (by decide) (fun h14 => ?_) (fun h14 => ?_)
      · refine ee_iconst (v := (1 : Int32)) dW_canBeSet_33 (by decide) ?_
        refine ee_goto (tgt := 38) dW_canBeSet_34 (by decide) ?_
        refine ee_pick [0, 1, 3] rfl ?_
        exact t_fW_canBeSet_38 _ _ _ _ w
      · refine ee_iload_n 1 dW_canBeSet_17 rfl ?_
        refine ee_iconst (v := (4 : Int32)) dW_canBeSet_18 (by decide) ?_
        refine ee_icmp_lt (tgt := 37) dW_canBeSet_19 (by decide) (fun h19 => ?_) (fun h19 => ?_)
        · refine ee_iconst (v := (0 : Int32)) dW_canBeSet_37 (by decide) ?_
          refine ee_pick [0, 1, 3] rfl ?_
          exact t_fW_canBeSet_38 _ _ _ _ w
        · refine ee_aload_n 0 dW_canBeSet_22 rfl ?_
          refine ee_getR dW_canBeSet_23 lfW_10 (fun v23 _ => ?_)
          refine ee_iload_n 2 dW_canBeSet_26 rfl ?_
          refine ee_bind (fun _ ho27 => ?_)
          refine ee_callV (as := [.int l2]) (st := []) dW_canBeSet_27 (t_fSettings_isTile v23 l2 w) my_fSettings_isTile.1 (Nat.le_of_ble_eq_true rfl) my_fSettings_isTile.2 rfl cf_7.1 rfl (p_obj_eq.mp ho27) gw_753 gw_681 gw_682 ⟨Nat.le_of_ble_eq_true rfl, Nat.le_of_ble_eq_true rfl⟩ (Nat.le_of_ble_eq_true rfl) (fun rv27 w27 _ => ?_)
          refine ee_kI (fun v27 => ?_)
          refine ee_if_eq (tgt := 37) dW_canBeSet_30 (by decide) (fun h30 => ?_) (fun h30 => ?_)
          · refine ee_iconst (v := (0 : Int32)) dW_canBeSet_37 (by decide) ?_
            refine ee_pick [0, 1, 3] rfl ?_
            exact t_fW_canBeSet_38 _ _ _ _ w27
          · refine ee_iconst (v := (1 : Int32)) dW_canBeSet_33 (by decide) ?_
            refine ee_goto (tgt := 38) dW_canBeSet_34 (by decide) ?_
            refine ee_pick [0, 1, 3] rfl ?_
            exact t_fW_canBeSet_38 _ _ _ _ w27
    · refine ee_iconst (v := (0 : Int32)) dW_canBeSet_10 (by decide) ?_
      exact ee_zret rfl dW_canBeSet_11
def fW_isByte (l0 : Int32) (w : PW) : PX := if l0 < 0 then (p_retZ (0 : Int32) w) else (if (255 : Int32) < l0 then (p_retZ (0 : Int32) w) else (p_retZ (1 : Int32) w))
set_option maxRecDepth 20000 in
set_option maxHeartbeats 2000000 in
theorem t_fW_isByte {Γ : PG} : ∀ (l0 : Int32) (w : PW), EE Γ MW_isByte 0 (lv_args 0 [.int l0]) [] w (fW_isByte l0 w) := by
  intro l0 w
  unfold fW_isByte
  show EE Γ MW_isByte 0 [(0, .int l0)] [] w _
  refine ee_iload_n 0 dW_isByte_0 rfl ?_
  refine ee_if_lt (tgt := 15) dW_isByte_1 (by decide) (fun h1 => ?_) (fun h1 => ?_)
  · refine ee_iconst (v := (0 : Int32)) dW_isByte_15 (by decide) ?_
    exact ee_zret rfl dW_isByte_16
  · refine ee_iload_n 0 dW_isByte_4 rfl ?_
    refine ee_sipush (v := (255 : Int32)) dW_isByte_5 (by decide) ?_
    refine ee_icmp_gt (tgt := 15) dW_isByte_8 (by decide) (fun h8 => ?_) (fun h8 => ?_)
    · refine ee_iconst (v := (0 : Int32)) dW_isByte_15 (by decide) ?_
      exact ee_zret rfl dW_isByte_16
    · refine ee_iconst (v := (1 : Int32)) dW_isByte_11 (by decide) ?_
      refine ee_goto (tgt := 16) dW_isByte_12 (by decide) ?_
      exact ee_zret rfl dW_isByte_16
def fW_isKind_2 : Nat → Int32 → Int32 → PW → PX
  | 0, _, _, _ => none
  | n9 + 1, l0, l1, w => if (32 : Int32) ≤ l1 then (p_retZ (1 : Int32) w) else (p_let (((p_ushr l0 l1) &&& (255 : Int32))) fun (l2_15 : Int32) => if l2_15 < (32 : Int32) then (p_retZ (0 : Int32) w) else (if l2_15 ≤ (126 : Int32) then (p_let (l1 + (8 : Int32)) fun (l1_30 : Int32) => (fW_isKind_2 n9) l0 l1_30 w) else (p_retZ (0 : Int32) w)))
set_option maxRecDepth 20000 in
set_option maxHeartbeats 2000000 in
theorem t_fW_isKind_2 {Γ : PG} : ∀ (n9 : Nat) (l0 : Int32) (l1 : Int32) (w : PW), EE Γ MW_isKind 2 [(0, .int l0), (1, .int l1)] [] w (fW_isKind_2 n9 l0 l1 w) := by
  intro n9
  induction n9 with
  | zero => intro l0 l1 w; exact ee_none
  | succ n9 ih =>
    intro l0 l1 w
    unfold fW_isKind_2
    refine ee_iload_n 1 dW_isKind_2 rfl ?_
    refine ee_bipush (v := (32 : Int32)) dW_isKind_3 (by decide) ?_
    refine ee_icmp_ge (tgt := 36) dW_isKind_5 (by decide) (fun h5 => ?_) (fun h5 => ?_)
    · refine ee_iconst (v := (1 : Int32)) dW_isKind_36 (by decide) ?_
      exact ee_zret rfl dW_isKind_37
    · refine ee_iload_n 0 dW_isKind_8 rfl ?_
      refine ee_iload_n 1 dW_isKind_9 rfl ?_
      refine ee_iushr dW_isKind_10 ?_
      refine ee_sipush (v := (255 : Int32)) dW_isKind_11 (by decide) ?_
      refine ee_iand dW_isKind_14 ?_
      refine ee_letI (fun l2_15 _ => ?_)
      refine ee_istore_n (lv2 := [(2, .int l2_15), (0, .int l0), (1, .int l1)]) dW_isKind_15 (Nat.le_of_ble_eq_true rfl) rfl ?_
      refine ee_iload_n 0 dW_isKind_16 rfl ?_
      refine ee_bipush (v := (32 : Int32)) dW_isKind_17 (by decide) ?_
      refine ee_icmp_lt (tgt := 28) dW_isKind_19 (by decide) (fun h19 => ?_) (fun h19 => ?_)
      · refine ee_iconst (v := (0 : Int32)) dW_isKind_28 (by decide) ?_
        exact ee_zret rfl dW_isKind_29
      · refine ee_iload_n 0 dW_isKind_22 rfl ?_
        refine ee_bipush (v := (126 : Int32)) dW_isKind_23 (by decide) ?_
        refine ee_icmp_le (tgt := 30) dW_isKind_25 (by decide) (fun h25 => ?_) (fun h25 => ?_)
        · refine ee_iinc 2 dW_isKind_30 rfl (e := (8 : Int32)) (by decide) (Nat.le_of_ble_eq_true rfl) (fun l1_30 _ => ?_)
          refine ee_lv (lv2 := [(1, .int l1_30), (2, .int l2_15), (0, .int l0)]) rfl ?_
          refine ee_goto (tgt := 2) dW_isKind_33 (by decide) ?_
          refine ee_pick [2, 0] rfl ?_
          exact ih _ _ w
        · refine ee_iconst (v := (0 : Int32)) dW_isKind_28 (by decide) ?_
          exact ee_zret rfl dW_isKind_29
def fW_isKind (l0 : Int32) (w : PW) : PX := fW_isKind_2 FUEL l0 (0 : Int32) w
set_option maxRecDepth 20000 in
set_option maxHeartbeats 2000000 in
theorem t_fW_isKind {Γ : PG} : ∀ (l0 : Int32) (w : PW), EE Γ MW_isKind 0 (lv_args 0 [.int l0]) [] w (fW_isKind l0 w) := by
  intro l0 w
  unfold fW_isKind
  show EE Γ MW_isKind 0 [(0, .int l0)] [] w _
  refine ee_iconst (v := (0 : Int32)) dW_isKind_0 (by decide) ?_
  refine ee_istore_n (lv2 := [(1, .int (0 : Int32)), (0, .int l0)]) dW_isKind_1 (Nat.le_of_ble_eq_true rfl) rfl ?_
  refine ee_pick [1, 0] rfl ?_
  exact t_fW_isKind_2 FUEL _ _ w
def fW_isOwnKind (l0 : Int32) (w : PW) : PX := if l0 = (1783636000 : Int32) then (p_retZ (1 : Int32) w) else (if l0 = (1718909296 : Int32) then (p_retZ (1 : Int32) w) else (if l0 = (1785737832 : Int32) then (p_retZ (1 : Int32) w) else (if l0 = (1768449138 : Int32) then (p_retZ (1 : Int32) w) else (if ¬ l0 = (1785737827 : Int32) then (p_retZ (0 : Int32) w) else (p_retZ (1 : Int32) w)))))
set_option maxRecDepth 20000 in
set_option maxHeartbeats 2000000 in
theorem t_fW_isOwnKind {Γ : PG} : ∀ (l0 : Int32) (w : PW), EE Γ MW_isOwnKind 0 (lv_args 0 [.int l0]) [] w (fW_isOwnKind l0 w) := by
  intro l0 w
  unfold fW_isOwnKind
  show EE Γ MW_isOwnKind 0 [(0, .int l0)] [] w _
  refine ee_iload_n 0 dW_isOwnKind_0 rfl ?_
  refine ee_ldcw (v := (1783636000 : Int32)) dW_isOwnKind_1 gw_1035 ?_
  refine ee_icmp_eq (tgt := 35) dW_isOwnKind_4 (by decide) (fun h4 => ?_) (fun h4 => ?_)
  · refine ee_iconst (v := (1 : Int32)) dW_isOwnKind_35 (by decide) ?_
    refine ee_goto (tgt := 40) dW_isOwnKind_36 (by decide) ?_
    exact ee_zret rfl dW_isOwnKind_40
  · refine ee_iload_n 0 dW_isOwnKind_7 rfl ?_
    refine ee_ldcw (v := (1718909296 : Int32)) dW_isOwnKind_8 gw_1036 ?_
    refine ee_icmp_eq (tgt := 35) dW_isOwnKind_11 (by decide) (fun h11 => ?_) (fun h11 => ?_)
    · refine ee_iconst (v := (1 : Int32)) dW_isOwnKind_35 (by decide) ?_
      refine ee_goto (tgt := 40) dW_isOwnKind_36 (by decide) ?_
      exact ee_zret rfl dW_isOwnKind_40
    · refine ee_iload_n 0 dW_isOwnKind_14 rfl ?_
      refine ee_ldcw (v := (1785737832 : Int32)) dW_isOwnKind_15 gw_1037 ?_
      refine ee_icmp_eq (tgt := 35) dW_isOwnKind_18 (by decide) (fun h18 => ?_) (fun h18 => ?_)
      · refine ee_iconst (v := (1 : Int32)) dW_isOwnKind_35 (by decide) ?_
        refine ee_goto (tgt := 40) dW_isOwnKind_36 (by decide) ?_
        exact ee_zret rfl dW_isOwnKind_40
      · refine ee_iload_n 0 dW_isOwnKind_21 rfl ?_
        refine ee_ldcw (v := (1768449138 : Int32)) dW_isOwnKind_22 gw_1038 ?_
        refine ee_icmp_eq (tgt := 35) dW_isOwnKind_25 (by decide) (fun h25 => ?_) (fun h25 => ?_)
        · refine ee_iconst (v := (1 : Int32)) dW_isOwnKind_35 (by decide) ?_
          refine ee_goto (tgt := 40) dW_isOwnKind_36 (by decide) ?_
          exact ee_zret rfl dW_isOwnKind_40
        · refine ee_iload_n 0 dW_isOwnKind_28 rfl ?_
          refine ee_ldcw (v := (1785737827 : Int32)) dW_isOwnKind_29 gw_1039 ?_
          refine ee_icmp_ne (tgt := 39) dW_isOwnKind_32 (by decide) (fun h32 => ?_) (fun h32 => ?_)
          · refine ee_iconst (v := (0 : Int32)) dW_isOwnKind_39 (by decide) ?_
            exact ee_zret rfl dW_isOwnKind_40
          · refine ee_iconst (v := (1 : Int32)) dW_isOwnKind_35 (by decide) ?_
            refine ee_goto (tgt := 40) dW_isOwnKind_36 (by decide) ?_
            exact ee_zret rfl dW_isOwnKind_40
def fW_forgetReading (l0 : Nat) (w : PW) : PX := if ¬ ((0 : Int32) = 0 ∨ (0 : Int32) = 1) then none else (p_put w l0 0 10 (.int (0 : Int32))).bind fun w2 => (p_getR w2 l0 0 7).bind fun v6 => (p_obj w2 v6 1).bind fun _ => p_call (fBoxReader_forget v6 w2) <| p_kV fun w9 => (p_getR w9 l0 0 6).bind fun v13 => (p_obj w9 v13 7).bind fun _ => p_call (fSettings_forgetSegments v13 w9) <| p_kV fun w16 => (p_getR w16 l0 0 9).bind fun v20 => (p_obj w16 v20 6).bind fun _ => p_call (fPartReader_forget v20 w16) <| p_kV fun w23 => some (.inl none, w23)
set_option maxRecDepth 20000 in
set_option maxHeartbeats 2000000 in
theorem t_fW_forgetReading {Γ : PG} : ∀ (l0 : Nat) (w : PW), EE Γ MW_forgetReading 0 (lv_args 0 [.ref l0]) [] w (fW_forgetReading l0 w) := by
  intro l0 w
  unfold fW_forgetReading
  show EE Γ MW_forgetReading 0 [(0, .ref l0)] [] w _
  refine ee_aload_n 0 dW_forgetReading_0 rfl ?_
  refine ee_iconst (v := (0 : Int32)) dW_forgetReading_1 (by decide) ?_
  refine ee_ite (fun _ => ee_none) (fun hz2 => ?_)
  refine ee_put dW_forgetReading_2 lpW_75 (ee_nZ _ (Classical.byContradiction hz2)) (fun w2 _ => ?_)
  refine ee_aload_n 0 dW_forgetReading_5 rfl ?_
  refine ee_getR dW_forgetReading_6 lfW_53 (fun v6 _ => ?_)
  refine ee_bind (fun _ ho9 => ?_)
  refine ee_callV (as := []) (st := []) dW_forgetReading_9 (t_fBoxReader_forget v6 w2) my_fBoxReader_forget.1 (Nat.le_of_ble_eq_true rfl) my_fBoxReader_forget.2 rfl cf_1.1 rfl (p_obj_eq.mp ho9) gw_514 gw_515 gw_516 ⟨Nat.le_of_ble_eq_true rfl, Nat.le_of_ble_eq_true rfl⟩ (Nat.le_of_ble_eq_true rfl) (fun rv9 w9 _ => ?_)
  refine ee_kV ?_
  refine ee_aload_n 0 dW_forgetReading_12 rfl ?_
  refine ee_getR dW_forgetReading_13 lfW_45 (fun v13 _ => ?_)
  refine ee_bind (fun _ ho16 => ?_)
  refine ee_callV (as := []) (st := []) dW_forgetReading_16 (t_fSettings_forgetSegments v13 w9) my_fSettings_forgetSegments.1 (Nat.le_of_ble_eq_true rfl) my_fSettings_forgetSegments.2 rfl cf_7.1 rfl (p_obj_eq.mp ho16) gw_518 gw_312 gw_313 ⟨Nat.le_of_ble_eq_true rfl, Nat.le_of_ble_eq_true rfl⟩ (Nat.le_of_ble_eq_true rfl) (fun rv16 w16 _ => ?_)
  refine ee_kV ?_
  refine ee_aload_n 0 dW_forgetReading_19 rfl ?_
  refine ee_getR dW_forgetReading_20 lfW_71 (fun v20 _ => ?_)
  refine ee_bind (fun _ ho23 => ?_)
  refine ee_callV (as := []) (st := []) dW_forgetReading_23 (t_fPartReader_forget v20 w16) my_fPartReader_forget.1 (Nat.le_of_ble_eq_true rfl) my_fPartReader_forget.2 rfl cf_6.1 rfl (p_obj_eq.mp ho23) gw_519 gw_520 gw_521 ⟨Nat.le_of_ble_eq_true rfl, Nat.le_of_ble_eq_true rfl⟩ (Nat.le_of_ble_eq_true rfl) (fun rv23 w23 _ => ?_)
  refine ee_kV ?_
  exact ee_vret rfl dW_forgetReading_26
def fW_canBeAsked_74 (l4 : Int32) (s0 : Int32) (w : PW) : PX := if l4 = 0 then (p_retZ (0 : Int32) w) else (if s0 = 0 then (p_retZ (0 : Int32) w) else (p_retZ (1 : Int32) w))
set_option maxRecDepth 20000 in
set_option maxHeartbeats 2000000 in
theorem t_fW_canBeAsked_74 {Γ : PG} : ∀ (l4 : Int32) (s0 : Int32) (w : PW), EE Γ MW_canBeAsked 74 [(4, .int l4)] [.int s0] w (fW_canBeAsked_74 l4 s0 w) := by
  intro l4 s0 w
  unfold fW_canBeAsked_74
  refine ee_istore (lv2 := [(5, .int s0), (4, .int l4)]) dW_canBeAsked_74 (Nat.le_of_ble_eq_true rfl) rfl ?_
  refine ee_iload 1 dW_canBeAsked_76 rfl ?_
  refine ee_if_eq (tgt := 90) dW_canBeAsked_78 (by decide) (fun h78 => ?_) (fun h78 => ?_)
  · refine ee_iconst (v := (0 : Int32)) dW_canBeAsked_90 (by decide) ?_
    exact ee_zret rfl dW_canBeAsked_91
  · refine ee_iload 0 dW_canBeAsked_81 rfl ?_
    refine ee_if_eq (tgt := 90) dW_canBeAsked_83 (by decide) (fun h83 => ?_) (fun h83 => ?_)
    · refine ee_iconst (v := (0 : Int32)) dW_canBeAsked_90 (by decide) ?_
      exact ee_zret rfl dW_canBeAsked_91
    · refine ee_iconst (v := (1 : Int32)) dW_canBeAsked_86 (by decide) ?_
      refine ee_goto (tgt := 91) dW_canBeAsked_87 (by decide) ?_
      exact ee_zret rfl dW_canBeAsked_91
def fW_canBeAsked_46 (l0 : Nat) (l1 : Int32) (l3 : Int32) (s0 : Int32) (w : PW) : PX := if l1 = (4 : Int32) then (fW_canBeAsked_74 s0 (1 : Int32) w) else (if l1 = (5 : Int32) then (fW_canBeAsked_74 s0 (1 : Int32) w) else ((p_getR w l0 0 6).bind fun v59 => (p_obj w v59 7).bind fun _ => p_call (fSettings_isComponent v59 l3 w) <| p_kI fun v63 w63 => if v63 = 0 then (fW_canBeAsked_74 s0 (0 : Int32) w63) else (fW_canBeAsked_74 s0 (1 : Int32) w63)))
set_option maxRecDepth 20000 in
set_option maxHeartbeats 2000000 in
theorem t_fW_canBeAsked_46 {Γ : PG} : ∀ (l0 : Nat) (l1 : Int32) (l3 : Int32) (s0 : Int32) (w : PW), EE Γ MW_canBeAsked 46 [(0, .ref l0), (1, .int l1), (3, .int l3)] [.int s0] w (fW_canBeAsked_46 l0 l1 l3 s0 w) := by
  intro l0 l1 l3 s0 w
  unfold fW_canBeAsked_46
  refine ee_istore (lv2 := [(4, .int s0), (0, .ref l0), (1, .int l1), (3, .int l3)]) dW_canBeAsked_46 (Nat.le_of_ble_eq_true rfl) rfl ?_
  refine ee_iload_n 2 dW_canBeAsked_48 rfl ?_
  refine ee_iconst (v := (4 : Int32)) dW_canBeAsked_49 (by decide) ?_
  refine ee_icmp_eq (tgt := 69) dW_canBeAsked_50 (by decide) (fun h50 => ?_) (fun h50 => ?_)
  · refine ee_iconst (v := (1 : Int32)) dW_canBeAsked_69 (by decide) ?_
    refine ee_goto (tgt := 74) dW_canBeAsked_70 (by decide) ?_
    refine ee_pick [0] rfl ?_
    exact t_fW_canBeAsked_74 _ _ w
  · refine ee_iload_n 2 dW_canBeAsked_53 rfl ?_
    refine ee_iconst (v := (5 : Int32)) dW_canBeAsked_54 (by decide) ?_
    refine ee_icmp_eq (tgt := 69) dW_canBeAsked_55 (by decide) (fun h55 => ?_) (fun h55 => ?_)
    · refine ee_iconst (v := (1 : Int32)) dW_canBeAsked_69 (by decide) ?_
      refine ee_goto (tgt := 74) dW_canBeAsked_70 (by decide) ?_
      refine ee_pick [0] rfl ?_
      exact t_fW_canBeAsked_74 _ _ w
    · refine ee_aload_n 1 dW_canBeAsked_58 rfl ?_
      refine ee_getR dW_canBeAsked_59 lfW_45 (fun v59 _ => ?_)
      refine ee_iload_n 3 dW_canBeAsked_62 rfl ?_
      refine ee_bind (fun _ ho63 => ?_)
      refine ee_callV (as := [.int l3]) (st := []) dW_canBeAsked_63 (t_fSettings_isComponent v59 l3 w) my_fSettings_isComponent.1 (Nat.le_of_ble_eq_true rfl) my_fSettings_isComponent.2 rfl cf_7.1 rfl (p_obj_eq.mp ho63) gw_754 gw_657 gw_658 ⟨Nat.le_of_ble_eq_true rfl, Nat.le_of_ble_eq_true rfl⟩ (Nat.le_of_ble_eq_true rfl) (fun rv63 w63 _ => ?_)
      refine ee_kI (fun v63 => ?_)
      refine ee_if_eq (tgt := 73) dW_canBeAsked_66 (by decide) (fun h66 => ?_) (fun h66 => ?_)
      · refine ee_iconst (v := (0 : Int32)) dW_canBeAsked_73 (by decide) ?_
        refine ee_pick [0] rfl ?_
        exact t_fW_canBeAsked_74 _ _ w63
      · refine ee_iconst (v := (1 : Int32)) dW_canBeAsked_69 (by decide) ?_
        refine ee_goto (tgt := 74) dW_canBeAsked_70 (by decide) ?_
        refine ee_pick [0] rfl ?_
        exact t_fW_canBeAsked_74 _ _ w63
def fW_canBeAsked (l0 : Nat) (l1 : Int32) (l2 : Int32) (l3 : Int32) (w : PW) : PX := if l1 < 0 then (p_retZ (0 : Int32) w) else (if l1 ≤ (11 : Int32) then (if l1 ≤ (2 : Int32) then (p_retZ (1 : Int32) w) else (if ¬ l1 = (11 : Int32) then (if l1 = (3 : Int32) then (fW_canBeAsked_46 l0 l1 l3 (1 : Int32) w) else ((p_getR w l0 0 6).bind fun v31 => (p_obj w v31 7).bind fun _ => p_call (fSettings_isTile v31 l2 w) <| p_kI fun v35 w35 => if v35 = 0 then (fW_canBeAsked_46 l0 l1 l3 (0 : Int32) w35) else (fW_canBeAsked_46 l0 l1 l3 (1 : Int32) w35))) else (p_retZ (1 : Int32) w))) else (p_retZ (0 : Int32) w))
set_option maxRecDepth 20000 in
set_option maxHeartbeats 2000000 in
theorem t_fW_canBeAsked {Γ : PG} : ∀ (l0 : Nat) (l1 : Int32) (l2 : Int32) (l3 : Int32) (w : PW), EE Γ MW_canBeAsked 0 (lv_args 0 [.ref l0, .int l1, .int l2, .int l3]) [] w (fW_canBeAsked l0 l1 l2 l3 w) := by
  intro l0 l1 l2 l3 w
  unfold fW_canBeAsked
  show EE Γ MW_canBeAsked 0 [(0, .ref l0), (1, .int l1), (2, .int l2), (3, .int l3)] [] w _
  refine ee_iload_n 1 dW_canBeAsked_0 rfl ?_
  refine ee_if_lt (tgt := 10) dW_canBeAsked_1 (by decide) (fun h1 => ?_) (fun h1 => ?_)
  · refine ee_iconst (v := (0 : Int32)) dW_canBeAsked_10 (by decide) ?_
    exact ee_zret rfl dW_canBeAsked_11
  · refine ee_iload_n 1 dW_canBeAsked_4 rfl ?_
    refine ee_bipush (v := (11 : Int32)) dW_canBeAsked_5 (by decide) ?_
    refine ee_icmp_le (tgt := 12) dW_canBeAsked_7 (by decide) (fun h7 => ?_) (fun h7 => ?_)
    · refine ee_iload_n 1 dW_canBeAsked_12 rfl ?_
      refine ee_iconst (v := (2 : Int32)) dW_canBeAsked_13 (by decide) ?_
      refine ee_icmp_le (tgt := 23) dW_canBeAsked_14 (by decide) (fun h14 => ?_) (fun h14 => ?_)
      · refine ee_iconst (v := (1 : Int32)) dW_canBeAsked_23 (by decide) ?_
        exact ee_zret rfl dW_canBeAsked_24
      · refine ee_iload_n 1 dW_canBeAsked_17 rfl ?_
        refine ee_bipush (v := (11 : Int32)) dW_canBeAsked_18 (by decide) ?_
        refine ee_icmp_ne (tgt := 25) dW_canBeAsked_20 (by decide) (fun h20 => ?_) (fun h20 => ?_)
        · refine ee_iload_n 1 dW_canBeAsked_25 rfl ?_
          refine ee_iconst (v := (3 : Int32)) dW_canBeAsked_26 (by decide) ?_
          refine ee_icmp_eq (tgt := 41) dW_canBeAsked_27 (by decide) (fun h27 => ?_) (fun h27 => ?_)
          · refine ee_iconst (v := (1 : Int32)) dW_canBeAsked_41 (by decide) ?_
            refine ee_goto (tgt := 46) dW_canBeAsked_42 (by decide) ?_
            refine ee_pick [0, 1, 3] rfl ?_
            exact t_fW_canBeAsked_46 _ _ _ _ w
          · refine ee_aload_n 0 dW_canBeAsked_30 rfl ?_
            refine ee_getR dW_canBeAsked_31 lfW_45 (fun v31 _ => ?_)
            refine ee_iload_n 2 dW_canBeAsked_34 rfl ?_
            refine ee_bind (fun _ ho35 => ?_)
            refine ee_callV (as := [.int l2]) (st := []) dW_canBeAsked_35 (t_fSettings_isTile v31 l2 w) my_fSettings_isTile.1 (Nat.le_of_ble_eq_true rfl) my_fSettings_isTile.2 rfl cf_7.1 rfl (p_obj_eq.mp ho35) gw_753 gw_681 gw_682 ⟨Nat.le_of_ble_eq_true rfl, Nat.le_of_ble_eq_true rfl⟩ (Nat.le_of_ble_eq_true rfl) (fun rv35 w35 _ => ?_)
            refine ee_kI (fun v35 => ?_)
            refine ee_if_eq (tgt := 45) dW_canBeAsked_38 (by decide) (fun h38 => ?_) (fun h38 => ?_)
            · refine ee_iconst (v := (0 : Int32)) dW_canBeAsked_45 (by decide) ?_
              refine ee_pick [0, 1, 3] rfl ?_
              exact t_fW_canBeAsked_46 _ _ _ _ w35
            · refine ee_iconst (v := (1 : Int32)) dW_canBeAsked_41 (by decide) ?_
              refine ee_goto (tgt := 46) dW_canBeAsked_42 (by decide) ?_
              refine ee_pick [0, 1, 3] rfl ?_
              exact t_fW_canBeAsked_46 _ _ _ _ w35
        · refine ee_iconst (v := (1 : Int32)) dW_canBeAsked_23 (by decide) ?_
          exact ee_zret rfl dW_canBeAsked_24
    · refine ee_iconst (v := (0 : Int32)) dW_canBeAsked_10 (by decide) ?_
      exact ee_zret rfl dW_canBeAsked_11
def fD_near (l0 : Int32) (l1 : Int32) (l2 : Int32) (w : PW) : PX := if l1 ≤ l0 then (if l0 ≤ l2 then (some (.inl (some (.int l0)), w)) else (some (.inl (some (.int l2)), w))) else (some (.inl (some (.int l1)), w))
set_option maxRecDepth 20000 in
set_option maxHeartbeats 2000000 in
theorem t_fD_near {Γ : PG} : ∀ (l0 : Int32) (l1 : Int32) (l2 : Int32) (w : PW), EE Γ MD_near 0 (lv_args 0 [.int l0, .int l1, .int l2]) [] w (fD_near l0 l1 l2 w) := by
  intro l0 l1 l2 w
  unfold fD_near
  show EE Γ MD_near 0 [(0, .int l0), (1, .int l1), (2, .int l2)] [] w _
  refine ee_iload_n 0 dD_near_0 rfl ?_
  refine ee_iload_n 1 dD_near_1 rfl ?_
  refine ee_icmp_ge (tgt := 9) dD_near_2 (by decide) (fun h2 => ?_) (fun h2 => ?_)
  · refine ee_iload_n 0 dD_near_9 rfl ?_
    refine ee_iload_n 2 dD_near_10 rfl ?_
    refine ee_icmp_le (tgt := 18) dD_near_11 (by decide) (fun h11 => ?_) (fun h11 => ?_)
    · refine ee_iload_n 0 dD_near_18 rfl ?_
      exact ee_iret rfl dD_near_19
    · refine ee_iload_n 2 dD_near_14 rfl ?_
      refine ee_goto (tgt := 19) dD_near_15 (by decide) ?_
      exact ee_iret rfl dD_near_19
  · refine ee_iload_n 1 dD_near_5 rfl ?_
    refine ee_goto (tgt := 19) dD_near_6 (by decide) ?_
    exact ee_iret rfl dD_near_19
def fD_put (l0 : Nat) (l1 : Int32) (l2 : Int32) (l3 : Int32) (w : PW) : PX := (p_getR w l0 10 3).bind fun v1 => (p_ast w v1 0 (((11 : Int32) * l1) + l2) l3).bind fun w11 => some (.inl none, w11)
set_option maxRecDepth 20000 in
set_option maxHeartbeats 2000000 in
theorem t_fD_put {Γ : PG} : ∀ (l0 : Nat) (l1 : Int32) (l2 : Int32) (l3 : Int32) (w : PW), EE Γ MD_put 0 (lv_args 0 [.ref l0, .int l1, .int l2, .int l3]) [] w (fD_put l0 l1 l2 l3 w) := by
  intro l0 l1 l2 l3 w
  unfold fD_put
  show EE Γ MD_put 0 [(0, .ref l0), (1, .int l1), (2, .int l2), (3, .int l3)] [] w _
  refine ee_aload_n 0 dD_put_0 rfl ?_
  refine ee_getR dD_put_1 lfD_7 (fun v1 _ => ?_)
  refine ee_bipush (v := (11 : Int32)) dD_put_4 (by decide) ?_
  refine ee_iload_n 1 dD_put_6 rfl ?_
  refine ee_imul dD_put_7 ?_
  refine ee_iload_n 2 dD_put_8 rfl ?_
  refine ee_iadd dD_put_9 ?_
  refine ee_iload_n 3 dD_put_10 rfl ?_
  refine ee_iast (t := 0) dD_put_11 rfl (fun w11 _ => ?_)
  exact ee_vret rfl dD_put_12
def fD_begin_120 (k_98 : Nat → Int32 → Int32 → PW → PX) (l0 : Nat) (l1 : Int32) (l3 : Int32) (s0 : Int32) (s1 : Int32) (s2 : Nat) (w : PW) : PX := (p_ast w s2 2 s1 (vp_nar .boolean s0)).bind fun w120 => (p_getR w120 l0 10 5).bind fun v122 => if ¬ l3 = 0 then ((p_ast w120 v122 2 (l1 + l3) (vp_nar .boolean (0 : Int32))).bind fun w137 => p_let (l3 + (1 : Int32)) fun (l3_138 : Int32) => k_98 l0 l1 l3_138 w137) else ((p_ast w120 v122 2 (l1 + l3) (vp_nar .boolean (1 : Int32))).bind fun w137 => p_let (l3 + (1 : Int32)) fun (l3_138 : Int32) => k_98 l0 l1 l3_138 w137)
set_option maxRecDepth 20000 in
set_option maxHeartbeats 2000000 in
theorem t_fD_begin_120 {Γ : PG} {k_98 : Nat → Int32 → Int32 → PW → PX} (hk_98 : ∀ (l0 : Nat) (l1 : Int32) (l3 : Int32) (w : PW), EE Γ MD_begin 98 [(0, .ref l0), (1, .int l1), (3, .int l3)] [] w (k_98 l0 l1 l3 w)) : ∀ (l0 : Nat) (l1 : Int32) (l3 : Int32) (s0 : Int32) (s1 : Int32) (s2 : Nat) (w : PW), EE Γ MD_begin 120 [(0, .ref l0), (1, .int l1), (3, .int l3)] [.int s0, .int s1, .ref s2] w (fD_begin_120 k_98 l0 l1 l3 s0 s1 s2 w) := by
  intro l0 l1 l3 s0 s1 s2 w
  unfold fD_begin_120
  refine ee_zast (t := 2) dD_begin_120 rfl (fun w120 _ => ?_)
  refine ee_aload_n 0 dD_begin_121 rfl ?_
  refine ee_getR dD_begin_122 lfD_17 (fun v122 _ => ?_)
  refine ee_iload_n 1 dD_begin_125 rfl ?_
  refine ee_iload_n 2 dD_begin_126 rfl ?_
  refine ee_iadd dD_begin_127 ?_
  refine ee_iload_n 2 dD_begin_128 rfl ?_
  refine ee_if_ne (tgt := 136) dD_begin_129 (by decide) (fun h129 => ?_) (fun h129 => ?_)
  · refine ee_iconst (v := (0 : Int32)) dD_begin_136 (by decide) ?_
    refine ee_zast (t := 2) dD_begin_137 rfl (fun w137 _ => ?_)
    refine ee_iinc 2 dD_begin_138 rfl (e := (1 : Int32)) (by decide) (Nat.le_of_ble_eq_true rfl) (fun l3_138 _ => ?_)
    refine ee_lv (lv2 := [(3, .int l3_138), (0, .ref l0), (1, .int l1)]) rfl ?_
    refine ee_goto (tgt := 98) dD_begin_141 (by decide) ?_
    refine ee_pick [1, 2, 0] rfl ?_
    exact hk_98 _ _ _ w137
  · refine ee_iconst (v := (1 : Int32)) dD_begin_132 (by decide) ?_
    refine ee_goto (tgt := 137) dD_begin_133 (by decide) ?_
    refine ee_zast (t := 2) dD_begin_137 rfl (fun w137 _ => ?_)
    refine ee_iinc 2 dD_begin_138 rfl (e := (1 : Int32)) (by decide) (Nat.le_of_ble_eq_true rfl) (fun l3_138 _ => ?_)
    refine ee_lv (lv2 := [(3, .int l3_138), (0, .ref l0), (1, .int l1)]) rfl ?_
    refine ee_goto (tgt := 98) dD_begin_141 (by decide) ?_
    refine ee_pick [1, 2, 0] rfl ?_
    exact hk_98 _ _ _ w137
def fD_begin_98 : Nat → Nat → Int32 → Int32 → PW → PX
  | 0, _, _, _, _ => none
  | n9 + 1, l0, l1, l3, w => if (125 : Int32) ≤ l3 then ((p_obj w l0 10).bind fun _ => p_call (fD_put l0 l1 (4 : Int32) (0 : Int32) w) <| p_kV fun w148 => (p_obj w148 l0 10).bind fun _ => p_call (fD_put l0 l1 (5 : Int32) (1 : Int32) w148) <| p_kV fun w155 => (p_obj w155 l0 10).bind fun _ => p_call (fD_put l0 l1 (6 : Int32) (5 : Int32) w155) <| p_kV fun w163 => (p_obj w163 l0 10).bind fun _ => p_call (fD_put l0 l1 (7 : Int32) (4 : Int32) w163) <| p_kV fun w171 => (p_obj w171 l0 10).bind fun _ => p_call (fD_put l0 l1 (8 : Int32) (1 : Int32) w171) <| p_kV fun w179 => (p_obj w179 l0 10).bind fun _ => p_call (fD_put l0 l1 (9 : Int32) (8 : Int32) w179) <| p_kV fun w188 => (p_obj w188 l0 10).bind fun _ => p_call (fD_put l0 l1 (10 : Int32) (2 : Int32) w188) <| p_kV fun w196 => some (.inl none, w196)) else ((p_getR w l0 10 4).bind fun v105 => if ¬ l3 = 0 then (fD_begin_120 (fD_begin_98 n9) l0 l1 l3 (0 : Int32) (l1 + l3) v105 w) else (fD_begin_120 (fD_begin_98 n9) l0 l1 l3 (1 : Int32) (l1 + l3) v105 w))
set_option maxRecDepth 20000 in
set_option maxHeartbeats 2000000 in
theorem t_fD_begin_98 {Γ : PG} : ∀ (n9 : Nat) (l0 : Nat) (l1 : Int32) (l3 : Int32) (w : PW), EE Γ MD_begin 98 [(0, .ref l0), (1, .int l1), (3, .int l3)] [] w (fD_begin_98 n9 l0 l1 l3 w) := by
  intro n9
  induction n9 with
  | zero => intro l0 l1 l3 w; exact ee_none
  | succ n9 ih =>
    intro l0 l1 l3 w
    unfold fD_begin_98
    refine ee_iload_n 2 dD_begin_98 rfl ?_
    refine ee_bipush (v := (125 : Int32)) dD_begin_99 (by decide) ?_
    refine ee_icmp_ge (tgt := 144) dD_begin_101 (by decide) (fun h101 => ?_) (fun h101 => ?_)
    · refine ee_aload_n 0 dD_begin_144 rfl ?_
      refine ee_iload_n 1 dD_begin_145 rfl ?_
      refine ee_iconst (v := (4 : Int32)) dD_begin_146 (by decide) ?_
      refine ee_iconst (v := (0 : Int32)) dD_begin_147 (by decide) ?_
      refine ee_bind (fun _ ho148 => ?_)
      refine ee_callV (as := [.int l1, .int (4 : Int32), .int (0 : Int32)]) (st := []) dD_begin_148 (t_fD_put l0 l1 (4 : Int32) (0 : Int32) w) my_fD_put.1 (Nat.le_of_ble_eq_true rfl) my_fD_put.2 rfl cf_10.1 rfl (p_obj_eq.mp ho148) gw_1170 gw_1172 gw_9 ⟨Nat.le_of_ble_eq_true rfl, Nat.le_of_ble_eq_true rfl⟩ (Nat.le_of_ble_eq_true rfl) (fun rv148 w148 _ => ?_)
      refine ee_kV ?_
      refine ee_aload_n 0 dD_begin_151 rfl ?_
      refine ee_iload_n 1 dD_begin_152 rfl ?_
      refine ee_iconst (v := (5 : Int32)) dD_begin_153 (by decide) ?_
      refine ee_iconst (v := (1 : Int32)) dD_begin_154 (by decide) ?_
      refine ee_bind (fun _ ho155 => ?_)
      refine ee_callV (as := [.int l1, .int (5 : Int32), .int (1 : Int32)]) (st := []) dD_begin_155 (t_fD_put l0 l1 (5 : Int32) (1 : Int32) w148) my_fD_put.1 (Nat.le_of_ble_eq_true rfl) my_fD_put.2 rfl cf_10.1 rfl (p_obj_eq.mp ho155) gw_1170 gw_1172 gw_9 ⟨Nat.le_of_ble_eq_true rfl, Nat.le_of_ble_eq_true rfl⟩ (Nat.le_of_ble_eq_true rfl) (fun rv155 w155 _ => ?_)
      refine ee_kV ?_
      refine ee_aload_n 0 dD_begin_158 rfl ?_
      refine ee_iload_n 1 dD_begin_159 rfl ?_
      refine ee_bipush (v := (6 : Int32)) dD_begin_160 (by decide) ?_
      refine ee_iconst (v := (5 : Int32)) dD_begin_162 (by decide) ?_
      refine ee_bind (fun _ ho163 => ?_)
      refine ee_callV (as := [.int l1, .int (6 : Int32), .int (5 : Int32)]) (st := []) dD_begin_163 (t_fD_put l0 l1 (6 : Int32) (5 : Int32) w155) my_fD_put.1 (Nat.le_of_ble_eq_true rfl) my_fD_put.2 rfl cf_10.1 rfl (p_obj_eq.mp ho163) gw_1170 gw_1172 gw_9 ⟨Nat.le_of_ble_eq_true rfl, Nat.le_of_ble_eq_true rfl⟩ (Nat.le_of_ble_eq_true rfl) (fun rv163 w163 _ => ?_)
      refine ee_kV ?_
      refine ee_aload_n 0 dD_begin_166 rfl ?_
      refine ee_iload_n 1 dD_begin_167 rfl ?_
      refine ee_bipush (v := (7 : Int32)) dD_begin_168 (by decide) ?_
      refine ee_iconst (v := (4 : Int32)) dD_begin_170 (by decide) ?_
      refine ee_bind (fun _ ho171 => ?_)
      refine ee_callV (as := [.int l1, .int (7 : Int32), .int (4 : Int32)]) (st := []) dD_begin_171 (t_fD_put l0 l1 (7 : Int32) (4 : Int32) w163) my_fD_put.1 (Nat.le_of_ble_eq_true rfl) my_fD_put.2 rfl cf_10.1 rfl (p_obj_eq.mp ho171) gw_1170 gw_1172 gw_9 ⟨Nat.le_of_ble_eq_true rfl, Nat.le_of_ble_eq_true rfl⟩ (Nat.le_of_ble_eq_true rfl) (fun rv171 w171 _ => ?_)
      refine ee_kV ?_
      refine ee_aload_n 0 dD_begin_174 rfl ?_
      refine ee_iload_n 1 dD_begin_175 rfl ?_
      refine ee_bipush (v := (8 : Int32)) dD_begin_176 (by decide) ?_
      refine ee_iconst (v := (1 : Int32)) dD_begin_178 (by decide) ?_
      refine ee_bind (fun _ ho179 => ?_)
      refine ee_callV (as := [.int l1, .int (8 : Int32), .int (1 : Int32)]) (st := []) dD_begin_179 (t_fD_put l0 l1 (8 : Int32) (1 : Int32) w171) my_fD_put.1 (Nat.le_of_ble_eq_true rfl) my_fD_put.2 rfl cf_10.1 rfl (p_obj_eq.mp ho179) gw_1170 gw_1172 gw_9 ⟨Nat.le_of_ble_eq_true rfl, Nat.le_of_ble_eq_true rfl⟩ (Nat.le_of_ble_eq_true rfl) (fun rv179 w179 _ => ?_)
      refine ee_kV ?_
      refine ee_aload_n 0 dD_begin_182 rfl ?_
      refine ee_iload_n 1 dD_begin_183 rfl ?_
      refine ee_bipush (v := (9 : Int32)) dD_begin_184 (by decide) ?_
      refine ee_bipush (v := (8 : Int32)) dD_begin_186 (by decide) ?_
      refine ee_bind (fun _ ho188 => ?_)
      refine ee_callV (as := [.int l1, .int (9 : Int32), .int (8 : Int32)]) (st := []) dD_begin_188 (t_fD_put l0 l1 (9 : Int32) (8 : Int32) w179) my_fD_put.1 (Nat.le_of_ble_eq_true rfl) my_fD_put.2 rfl cf_10.1 rfl (p_obj_eq.mp ho188) gw_1170 gw_1172 gw_9 ⟨Nat.le_of_ble_eq_true rfl, Nat.le_of_ble_eq_true rfl⟩ (Nat.le_of_ble_eq_true rfl) (fun rv188 w188 _ => ?_)
      refine ee_kV ?_
      refine ee_aload_n 0 dD_begin_191 rfl ?_
      refine ee_iload_n 1 dD_begin_192 rfl ?_
      refine ee_bipush (v := (10 : Int32)) dD_begin_193 (by decide) ?_
      refine ee_iconst (v := (2 : Int32)) dD_begin_195 (by decide) ?_
      refine ee_bind (fun _ ho196 => ?_)
      refine ee_callV (as := [.int l1, .int (10 : Int32), .int (2 : Int32)]) (st := []) dD_begin_196 (t_fD_put l0 l1 (10 : Int32) (2 : Int32) w188) my_fD_put.1 (Nat.le_of_ble_eq_true rfl) my_fD_put.2 rfl cf_10.1 rfl (p_obj_eq.mp ho196) gw_1170 gw_1172 gw_9 ⟨Nat.le_of_ble_eq_true rfl, Nat.le_of_ble_eq_true rfl⟩ (Nat.le_of_ble_eq_true rfl) (fun rv196 w196 _ => ?_)
      refine ee_kV ?_
      exact ee_vret rfl dD_begin_199
    · refine ee_aload_n 0 dD_begin_104 rfl ?_
      refine ee_getR dD_begin_105 lfD_13 (fun v105 _ => ?_)
      refine ee_iload_n 1 dD_begin_108 rfl ?_
      refine ee_iload_n 2 dD_begin_109 rfl ?_
      refine ee_iadd dD_begin_110 ?_
      refine ee_iload_n 2 dD_begin_111 rfl ?_
      refine ee_if_ne (tgt := 119) dD_begin_112 (by decide) (fun h112 => ?_) (fun h112 => ?_)
      · refine ee_iconst (v := (0 : Int32)) dD_begin_119 (by decide) ?_
        exact t_fD_begin_120 ih _ _ _ _ _ _ w
      · refine ee_iconst (v := (1 : Int32)) dD_begin_115 (by decide) ?_
        refine ee_goto (tgt := 120) dD_begin_116 (by decide) ?_
        exact t_fD_begin_120 ih _ _ _ _ _ _ w
def fD_begin_85 (k_67 : Nat → Int32 → Int32 → Int32 → PW → PX) (l0 : Nat) (l1 : Int32) (l2 : Int32) (l3 : Int32) (s0 : Int32) (s1 : Nat) (w : PW) : PX := (p_ast w s1 0 (s0 + l3) (8 : Int32)).bind fun w89 => p_let (l3 + (1 : Int32)) fun (l3_90 : Int32) => k_67 l0 l1 l2 l3_90 w89
set_option maxRecDepth 20000 in
set_option maxHeartbeats 2000000 in
theorem t_fD_begin_85 {Γ : PG} {k_67 : Nat → Int32 → Int32 → Int32 → PW → PX} (hk_67 : ∀ (l0 : Nat) (l1 : Int32) (l2 : Int32) (l3 : Int32) (w : PW), EE Γ MD_begin 67 [(0, .ref l0), (1, .int l1), (2, .int l2), (3, .int l3)] [] w (k_67 l0 l1 l2 l3 w)) : ∀ (l0 : Nat) (l1 : Int32) (l2 : Int32) (l3 : Int32) (s0 : Int32) (s1 : Nat) (w : PW), EE Γ MD_begin 85 [(0, .ref l0), (1, .int l1), (2, .int l2), (3, .int l3)] [.int s0, .ref s1] w (fD_begin_85 k_67 l0 l1 l2 l3 s0 s1 w) := by
  intro l0 l1 l2 l3 s0 s1 w
  unfold fD_begin_85
  refine ee_iload_n 3 dD_begin_85 rfl ?_
  refine ee_iadd dD_begin_86 ?_
  refine ee_bipush (v := (8 : Int32)) dD_begin_87 (by decide) ?_
  refine ee_iast (t := 0) dD_begin_89 rfl (fun w89 _ => ?_)
  refine ee_iinc 3 dD_begin_90 rfl (e := (1 : Int32)) (by decide) (Nat.le_of_ble_eq_true rfl) (fun l3_90 _ => ?_)
  refine ee_lv (lv2 := [(3, .int l3_90), (0, .ref l0), (1, .int l1), (2, .int l2)]) rfl ?_
  refine ee_goto (tgt := 67) dD_begin_93 (by decide) ?_
  refine ee_pick [1, 2, 3, 0] rfl ?_
  exact hk_67 _ _ _ _ w89
def fD_begin_67 : Nat → Nat → Int32 → Int32 → Int32 → PW → PX
  | 0, _, _, _, _, _ => none
  | n9 + 1, l0, l1, l2, l3, w => if (4 : Int32) ≤ l3 then (fD_begin_98 FUEL l0 l1 (0 : Int32) w) else ((p_getR w l0 10 6).bind fun v73 => if ¬ l2 = 0 then (fD_begin_85 (fD_begin_67 n9) l0 l1 l2 l3 (4 : Int32) v73 w) else (fD_begin_85 (fD_begin_67 n9) l0 l1 l2 l3 (0 : Int32) v73 w))
set_option maxRecDepth 20000 in
set_option maxHeartbeats 2000000 in
theorem t_fD_begin_67 {Γ : PG} : ∀ (n9 : Nat) (l0 : Nat) (l1 : Int32) (l2 : Int32) (l3 : Int32) (w : PW), EE Γ MD_begin 67 [(0, .ref l0), (1, .int l1), (2, .int l2), (3, .int l3)] [] w (fD_begin_67 n9 l0 l1 l2 l3 w) := by
  intro n9
  induction n9 with
  | zero => intro l0 l1 l2 l3 w; exact ee_none
  | succ n9 ih =>
    intro l0 l1 l2 l3 w
    unfold fD_begin_67
    refine ee_iload_n 3 dD_begin_67 rfl ?_
    refine ee_iconst (v := (4 : Int32)) dD_begin_68 (by decide) ?_
    refine ee_icmp_ge (tgt := 96) dD_begin_69 (by decide) (fun h69 => ?_) (fun h69 => ?_)
    · refine ee_iconst (v := (0 : Int32)) dD_begin_96 (by decide) ?_
      refine ee_istore_n (lv2 := [(3, .int (0 : Int32)), (0, .ref l0), (1, .int l1), (2, .int l2)]) dD_begin_97 (Nat.le_of_ble_eq_true rfl) rfl ?_
      refine ee_pick [1, 2, 0] rfl ?_
      exact t_fD_begin_98 FUEL _ _ _ w
    · refine ee_aload_n 0 dD_begin_72 rfl ?_
      refine ee_getR dD_begin_73 lfD_20 (fun v73 _ => ?_)
      refine ee_iload_n 2 dD_begin_76 rfl ?_
      refine ee_if_ne (tgt := 84) dD_begin_77 (by decide) (fun h77 => ?_) (fun h77 => ?_)
      · refine ee_iconst (v := (4 : Int32)) dD_begin_84 (by decide) ?_
        exact t_fD_begin_85 ih _ _ _ _ _ _ w
      · refine ee_iconst (v := (0 : Int32)) dD_begin_80 (by decide) ?_
        refine ee_goto (tgt := 85) dD_begin_81 (by decide) ?_
        exact t_fD_begin_85 ih _ _ _ _ _ _ w
def fD_begin_9 (l0 : Nat) (l1 : Int32) (s0 : Int32) (w : PW) : PX := (p_getR w l0 10 7).bind fun v11 => (p_getI w l0 10 1).bind fun v16 => (p_ast w v11 0 s0 v16).bind fun w19 => (p_getR w19 l0 10 7).bind fun v21 => (p_getI w19 l0 10 2).bind fun v28 => (p_ast w19 v21 0 (s0 + (1 : Int32)) v28).bind fun w31 => (p_getR w31 l0 10 7).bind fun v33 => (p_ast w31 v33 0 (s0 + (2 : Int32)) (1 : Int32)).bind fun w40 => (p_getR w40 l0 10 7).bind fun v42 => (p_getI w40 l0 10 1).bind fun v49 => (p_ast w40 v42 0 (s0 + (3 : Int32)) v49).bind fun w52 => (p_getR w52 l0 10 7).bind fun v54 => (p_getI w52 l0 10 2).bind fun v61 => (p_ast w52 v54 0 (s0 + (4 : Int32)) v61).bind fun w64 => fD_begin_67 FUEL l0 l1 s0 (0 : Int32) w64
set_option maxRecDepth 20000 in
set_option maxHeartbeats 2000000 in
theorem t_fD_begin_9 {Γ : PG} : ∀ (l0 : Nat) (l1 : Int32) (s0 : Int32) (w : PW), EE Γ MD_begin 9 [(0, .ref l0), (1, .int l1)] [.int s0] w (fD_begin_9 l0 l1 s0 w) := by
  intro l0 l1 s0 w
  unfold fD_begin_9
  refine ee_istore_n (lv2 := [(2, .int s0), (0, .ref l0), (1, .int l1)]) dD_begin_9 (Nat.le_of_ble_eq_true rfl) rfl ?_
  refine ee_aload_n 1 dD_begin_10 rfl ?_
  refine ee_getR dD_begin_11 lfD_23 (fun v11 _ => ?_)
  refine ee_iload_n 0 dD_begin_14 rfl ?_
  refine ee_aload_n 1 dD_begin_15 rfl ?_
  refine ee_getI dD_begin_16 lfD_100 (fun v16 _ => ?_)
  refine ee_iast (t := 0) dD_begin_19 rfl (fun w19 _ => ?_)
  refine ee_aload_n 1 dD_begin_20 rfl ?_
  refine ee_getR dD_begin_21 lfD_23 (fun v21 _ => ?_)
  refine ee_iload_n 0 dD_begin_24 rfl ?_
  refine ee_iconst (v := (1 : Int32)) dD_begin_25 (by decide) ?_
  refine ee_iadd dD_begin_26 ?_
  refine ee_aload_n 1 dD_begin_27 rfl ?_
  refine ee_getI dD_begin_28 lfD_104 (fun v28 _ => ?_)
  refine ee_iast (t := 0) dD_begin_31 rfl (fun w31 _ => ?_)
  refine ee_aload_n 1 dD_begin_32 rfl ?_
  refine ee_getR dD_begin_33 lfD_23 (fun v33 _ => ?_)
  refine ee_iload_n 0 dD_begin_36 rfl ?_
  refine ee_iconst (v := (2 : Int32)) dD_begin_37 (by decide) ?_
  refine ee_iadd dD_begin_38 ?_
  refine ee_iconst (v := (1 : Int32)) dD_begin_39 (by decide) ?_
  refine ee_iast (t := 0) dD_begin_40 rfl (fun w40 _ => ?_)
  refine ee_aload_n 1 dD_begin_41 rfl ?_
  refine ee_getR dD_begin_42 lfD_23 (fun v42 _ => ?_)
  refine ee_iload_n 0 dD_begin_45 rfl ?_
  refine ee_iconst (v := (3 : Int32)) dD_begin_46 (by decide) ?_
  refine ee_iadd dD_begin_47 ?_
  refine ee_aload_n 1 dD_begin_48 rfl ?_
  refine ee_getI dD_begin_49 lfD_100 (fun v49 _ => ?_)
  refine ee_iast (t := 0) dD_begin_52 rfl (fun w52 _ => ?_)
  refine ee_aload_n 1 dD_begin_53 rfl ?_
  refine ee_getR dD_begin_54 lfD_23 (fun v54 _ => ?_)
  refine ee_iload_n 0 dD_begin_57 rfl ?_
  refine ee_iconst (v := (4 : Int32)) dD_begin_58 (by decide) ?_
  refine ee_iadd dD_begin_59 ?_
  refine ee_aload_n 1 dD_begin_60 rfl ?_
  refine ee_getI dD_begin_61 lfD_104 (fun v61 _ => ?_)
  refine ee_iast (t := 0) dD_begin_64 rfl (fun w64 _ => ?_)
  refine ee_iconst (v := (0 : Int32)) dD_begin_65 (by decide) ?_
  refine ee_istore_n (lv2 := [(3, .int (0 : Int32)), (2, .int s0), (0, .ref l0), (1, .int l1)]) dD_begin_66 (Nat.le_of_ble_eq_true rfl) rfl ?_
  refine ee_pick [2, 3, 1, 0] rfl ?_
  exact t_fD_begin_67 FUEL _ _ _ _ w64
def fD_begin (l0 : Nat) (l1 : Int32) (w : PW) : PX := if ¬ l1 = 0 then (fD_begin_9 l0 l1 (5 : Int32) w) else (fD_begin_9 l0 l1 (0 : Int32) w)
set_option maxRecDepth 20000 in
set_option maxHeartbeats 2000000 in
theorem t_fD_begin {Γ : PG} : ∀ (l0 : Nat) (l1 : Int32) (w : PW), EE Γ MD_begin 0 (lv_args 0 [.ref l0, .int l1]) [] w (fD_begin l0 l1 w) := by
  intro l0 l1 w
  unfold fD_begin
  show EE Γ MD_begin 0 [(0, .ref l0), (1, .int l1)] [] w _
  refine ee_iload_n 1 dD_begin_0 rfl ?_
  refine ee_if_ne (tgt := 8) dD_begin_1 (by decide) (fun h1 => ?_) (fun h1 => ?_)
  · refine ee_iconst (v := (5 : Int32)) dD_begin_8 (by decide) ?_
    exact t_fD_begin_9 _ _ _ w
  · refine ee_iconst (v := (0 : Int32)) dD_begin_4 (by decide) ?_
    refine ee_goto (tgt := 9) dD_begin_5 (by decide) ?_
    exact t_fD_begin_9 _ _ _ w
def fD_clear (l0 : Nat) (w : PW) : PX := (p_put w l0 10 0 (.int (0 : Int32))).bind fun w2 => (p_obj w2 l0 10).bind fun _ => p_call (fD_begin l0 (0 : Int32) w2) <| p_kV fun w7 => (p_put w7 l0 10 8 (.int (0 : Int32))).bind fun w12 => (p_put w12 l0 10 14 (.int (0 : Int32))).bind fun w17 => (p_put w17 l0 10 20 (.int (0 : Int32))).bind fun w22 => (p_put w22 l0 10 22 (.int (0 : Int32))).bind fun w27 => if ¬ ((0 : Int32) = 0 ∨ (0 : Int32) = 1) then none else (p_put w27 l0 10 25 (.int (0 : Int32))).bind fun w32 => (p_put w32 l0 10 27 (.int (0 : Int32))).bind fun w37 => (p_put w37 l0 10 30 (.int (0 : Int32))).bind fun w42 => some (.inl none, w42)
set_option maxRecDepth 20000 in
set_option maxHeartbeats 2000000 in
theorem t_fD_clear {Γ : PG} : ∀ (l0 : Nat) (w : PW), EE Γ MD_clear 0 (lv_args 0 [.ref l0]) [] w (fD_clear l0 w) := by
  intro l0 w
  unfold fD_clear
  show EE Γ MD_clear 0 [(0, .ref l0)] [] w _
  refine ee_aload_n 0 dD_clear_0 rfl ?_
  refine ee_iconst (v := (0 : Int32)) dD_clear_1 (by decide) ?_
  refine ee_put dD_clear_2 lpD_110 (ee_nI _) (fun w2 _ => ?_)
  refine ee_aload_n 0 dD_clear_5 rfl ?_
  refine ee_iconst (v := (0 : Int32)) dD_clear_6 (by decide) ?_
  refine ee_bind (fun _ ho7 => ?_)
  refine ee_callV (as := [.int (0 : Int32)]) (st := []) dD_clear_7 (t_fD_begin l0 (0 : Int32) w2) my_fD_begin.1 (Nat.le_of_ble_eq_true rfl) my_fD_begin.2 rfl cf_10.1 rfl (p_obj_eq.mp ho7) gw_1166 gw_1168 gw_8 ⟨Nat.le_of_ble_eq_true rfl, Nat.le_of_ble_eq_true rfl⟩ (Nat.le_of_ble_eq_true rfl) (fun rv7 w7 _ => ?_)
  refine ee_kV ?_
  refine ee_aload_n 0 dD_clear_10 rfl ?_
  refine ee_iconst (v := (0 : Int32)) dD_clear_11 (by decide) ?_
  refine ee_put dD_clear_12 lpD_145 (ee_nI _) (fun w12 _ => ?_)
  refine ee_aload_n 0 dD_clear_15 rfl ?_
  refine ee_iconst (v := (0 : Int32)) dD_clear_16 (by decide) ?_
  refine ee_put dD_clear_17 lpD_209 (ee_nI _) (fun w17 _ => ?_)
  refine ee_aload_n 0 dD_clear_20 rfl ?_
  refine ee_iconst (v := (0 : Int32)) dD_clear_21 (by decide) ?_
  refine ee_put dD_clear_22 lpD_212 (ee_nI _) (fun w22 _ => ?_)
  refine ee_aload_n 0 dD_clear_25 rfl ?_
  refine ee_iconst (v := (0 : Int32)) dD_clear_26 (by decide) ?_
  refine ee_put dD_clear_27 lpD_255 (ee_nI _) (fun w27 _ => ?_)
  refine ee_aload_n 0 dD_clear_30 rfl ?_
  refine ee_iconst (v := (0 : Int32)) dD_clear_31 (by decide) ?_
  refine ee_ite (fun _ => ee_none) (fun hz32 => ?_)
  refine ee_put dD_clear_32 lpD_380 (ee_nZ _ (Classical.byContradiction hz32)) (fun w32 _ => ?_)
  refine ee_aload_n 0 dD_clear_35 rfl ?_
  refine ee_iconst (v := (0 : Int32)) dD_clear_36 (by decide) ?_
  refine ee_put dD_clear_37 lpD_269 (ee_nI _) (fun w37 _ => ?_)
  refine ee_aload_n 0 dD_clear_40 rfl ?_
  refine ee_iconst (v := (0 : Int32)) dD_clear_41 (by decide) ?_
  refine ee_put dD_clear_42 lpD_349 (ee_nI _) (fun w42 _ => ?_)
  exact ee_vret rfl dD_clear_45
def fD_init (l0 : Nat) (l1 : Int32) (l2 : Int32) (w : PW) : PX := p_newA w 0 4 (2750 : Int32) fun v8 w8 => (p_put w8 l0 10 3 (.ref v8)).bind fun w10 => p_newA w10 2 1 (250 : Int32) fun v17 w17 => (p_put w17 l0 10 4 (.ref v17)).bind fun w19 => p_newA w19 2 1 (250 : Int32) fun v26 w26 => (p_put w26 l0 10 5 (.ref v26)).bind fun w28 => p_newA w28 0 4 (8 : Int32) fun v34 w34 => (p_put w34 l0 10 6 (.ref v34)).bind fun w36 => p_newA w36 0 4 (10 : Int32) fun v42 w42 => (p_put w42 l0 10 7 (.ref v42)).bind fun w44 => p_newA w44 0 4 (40 : Int32) fun v50 w50 => (p_put w50 l0 10 9 (.ref v50)).bind fun w52 => p_newA w52 0 4 (40 : Int32) fun v58 w58 => (p_put w58 l0 10 10 (.ref v58)).bind fun w60 => p_newA w60 0 4 (800 : Int32) fun v67 w67 => (p_put w67 l0 10 11 (.ref v67)).bind fun w69 => p_newA w69 0 4 (40 : Int32) fun v75 w75 => (p_put w75 l0 10 12 (.ref v75)).bind fun w77 => p_newA w77 0 4 (12000 : Int32) fun v84 w84 => (p_put w84 l0 10 13 (.ref v84)).bind fun w86 => p_newA w86 2 1 (8 : Int32) fun v92 w92 => (p_put w92 l0 10 15 (.ref v92)).bind fun w94 => p_newA w94 0 4 (8 : Int32) fun v100 w100 => (p_put w100 l0 10 16 (.ref v100)).bind fun w102 => p_newA w102 0 4 (8 : Int32) fun v108 w108 => (p_put w108 l0 10 17 (.ref v108)).bind fun w110 => p_newA w110 0 4 (320 : Int32) fun v117 w117 => (p_put w117 l0 10 18 (.ref v117)).bind fun w119 => p_newA w119 0 4 (40000 : Int32) fun v125 w125 => (p_put w125 l0 10 19 (.ref v125)).bind fun w127 => p_newA w127 0 4 (20000 : Int32) fun v134 w134 => (p_put w134 l0 10 21 (.ref v134)).bind fun w136 => p_newA w136 0 4 (20000 : Int32) fun v143 w143 => (p_put w143 l0 10 23 (.ref v143)).bind fun w145 => p_newA w145 0 4 (2600 : Int32) fun v152 w152 => (p_put w152 l0 10 28 (.ref v152)).bind fun w154 => p_newA w154 0 4 (2600 : Int32) fun v161 w161 => (p_put w161 l0 10 29 (.ref v161)).bind fun w163 => p_newA w163 0 4 (300 : Int32) fun v170 w170 => (p_put w170 l0 10 31 (.ref v170)).bind fun w172 => p_newA w172 0 4 (300 : Int32) fun v179 w179 => (p_put w179 l0 10 32 (.ref v179)).bind fun w181 => p_newA w181 0 4 (300 : Int32) fun v188 w188 => (p_put w188 l0 10 33 (.ref v188)).bind fun w190 => p_newA w190 0 4 (300 : Int32) fun v197 w197 => (p_put w197 l0 10 34 (.ref v197)).bind fun w199 => p_newA w199 0 4 (300 : Int32) fun v206 w206 => (p_put w206 l0 10 35 (.ref v206)).bind fun w208 => p_newA w208 2 1 (300 : Int32) fun v215 w215 => (p_put w215 l0 10 36 (.ref v215)).bind fun w217 => p_newA w217 2 1 (300 : Int32) fun v224 w224 => (p_put w224 l0 10 37 (.ref v224)).bind fun w226 => p_newA w226 0 4 (24 : Int32) fun v232 w232 => (p_put w232 l0 10 38 (.ref v232)).bind fun w234 => p_newA w234 0 4 (200 : Int32) fun v241 w241 => (p_put w241 l0 10 42 (.ref v241)).bind fun w243 => p_call (fD_near l1 (1 : Int32) (2000 : Int32) w243) <| p_kI fun v252 w252 => (p_put w252 l0 10 1 (.int v252)).bind fun w255 => p_call (fD_near l2 (1 : Int32) (2000 : Int32) w255) <| p_kI fun v264 w264 => (p_put w264 l0 10 2 (.int v264)).bind fun w267 => (p_obj w267 l0 10).bind fun _ => p_call (fD_clear l0 w267) <| p_kV fun w271 => some (.inl none, w271)
set_option maxRecDepth 20000 in
set_option maxHeartbeats 2000000 in
theorem t_fD_init {Γ : PG} : ∀ (l0 : Nat) (l1 : Int32) (l2 : Int32) (w : PW), EE Γ MD_init 0 (lv_args 0 [.ref l0, .int l1, .int l2]) [] w (fD_init l0 l1 l2 w) := by
  intro l0 l1 l2 w
  unfold fD_init
  show EE Γ MD_init 0 [(0, .ref l0), (1, .int l1), (2, .int l2)] [] w _
  refine ee_aload_n 0 dD_init_0 rfl ?_
  refine ee_objInit dD_init_1 gw_1157 gw_obji gw_objc ⟨Nat.le_of_ble_eq_true rfl, Nat.le_of_ble_eq_true rfl⟩ ?_
  refine ee_aload_n 0 dD_init_4 rfl ?_
  refine ee_sipush (v := (2750 : Int32)) dD_init_5 (by decide) ?_
  refine ee_newI dD_init_8 (fun v8 w8 _ _ _ => ?_)
  refine ee_put dD_init_10 lpiD_7 (ee_nRA _ _) (fun w10 _ => ?_)
  refine ee_aload_n 0 dD_init_13 rfl ?_
  refine ee_sipush (v := (250 : Int32)) dD_init_14 (by decide) ?_
  refine ee_newZ dD_init_17 (fun v17 w17 _ _ _ => ?_)
  refine ee_put dD_init_19 lpiD_13 (ee_nRA _ _) (fun w19 _ => ?_)
  refine ee_aload_n 0 dD_init_22 rfl ?_
  refine ee_sipush (v := (250 : Int32)) dD_init_23 (by decide) ?_
  refine ee_newZ dD_init_26 (fun v26 w26 _ _ _ => ?_)
  refine ee_put dD_init_28 lpiD_17 (ee_nRA _ _) (fun w28 _ => ?_)
  refine ee_aload_n 0 dD_init_31 rfl ?_
  refine ee_bipush (v := (8 : Int32)) dD_init_32 (by decide) ?_
  refine ee_newI dD_init_34 (fun v34 w34 _ _ _ => ?_)
  refine ee_put dD_init_36 lpiD_20 (ee_nRA _ _) (fun w36 _ => ?_)
  refine ee_aload_n 0 dD_init_39 rfl ?_
  refine ee_bipush (v := (10 : Int32)) dD_init_40 (by decide) ?_
  refine ee_newI dD_init_42 (fun v42 w42 _ _ _ => ?_)
  refine ee_put dD_init_44 lpiD_23 (ee_nRA _ _) (fun w44 _ => ?_)
  refine ee_aload_n 0 dD_init_47 rfl ?_
  refine ee_bipush (v := (40 : Int32)) dD_init_48 (by decide) ?_
  refine ee_newI dD_init_50 (fun v50 w50 _ _ _ => ?_)
  refine ee_put dD_init_52 lpiD_26 (ee_nRA _ _) (fun w52 _ => ?_)
  refine ee_aload_n 0 dD_init_55 rfl ?_
  refine ee_bipush (v := (40 : Int32)) dD_init_56 (by decide) ?_
  refine ee_newI dD_init_58 (fun v58 w58 _ _ _ => ?_)
  refine ee_put dD_init_60 lpiD_29 (ee_nRA _ _) (fun w60 _ => ?_)
  refine ee_aload_n 0 dD_init_63 rfl ?_
  refine ee_sipush (v := (800 : Int32)) dD_init_64 (by decide) ?_
  refine ee_newI dD_init_67 (fun v67 w67 _ _ _ => ?_)
  refine ee_put dD_init_69 lpiD_32 (ee_nRA _ _) (fun w69 _ => ?_)
  refine ee_aload_n 0 dD_init_72 rfl ?_
  refine ee_bipush (v := (40 : Int32)) dD_init_73 (by decide) ?_
  refine ee_newI dD_init_75 (fun v75 w75 _ _ _ => ?_)
  refine ee_put dD_init_77 lpiD_35 (ee_nRA _ _) (fun w77 _ => ?_)
  refine ee_aload_n 0 dD_init_80 rfl ?_
  refine ee_sipush (v := (12000 : Int32)) dD_init_81 (by decide) ?_
  refine ee_newI dD_init_84 (fun v84 w84 _ _ _ => ?_)
  refine ee_put dD_init_86 lpiD_38 (ee_nRA _ _) (fun w86 _ => ?_)
  refine ee_aload_n 0 dD_init_89 rfl ?_
  refine ee_bipush (v := (8 : Int32)) dD_init_90 (by decide) ?_
  refine ee_newZ dD_init_92 (fun v92 w92 _ _ _ => ?_)
  refine ee_put dD_init_94 lpiD_41 (ee_nRA _ _) (fun w94 _ => ?_)
  refine ee_aload_n 0 dD_init_97 rfl ?_
  refine ee_bipush (v := (8 : Int32)) dD_init_98 (by decide) ?_
  refine ee_newI dD_init_100 (fun v100 w100 _ _ _ => ?_)
  refine ee_put dD_init_102 lpiD_44 (ee_nRA _ _) (fun w102 _ => ?_)
  refine ee_aload_n 0 dD_init_105 rfl ?_
  refine ee_bipush (v := (8 : Int32)) dD_init_106 (by decide) ?_
  refine ee_newI dD_init_108 (fun v108 w108 _ _ _ => ?_)
  refine ee_put dD_init_110 lpiD_47 (ee_nRA _ _) (fun w110 _ => ?_)
  refine ee_aload_n 0 dD_init_113 rfl ?_
  refine ee_sipush (v := (320 : Int32)) dD_init_114 (by decide) ?_
  refine ee_newI dD_init_117 (fun v117 w117 _ _ _ => ?_)
  refine ee_put dD_init_119 lpiD_50 (ee_nRA _ _) (fun w119 _ => ?_)
  refine ee_aload_n 0 dD_init_122 rfl ?_
  refine ee_ldc (v := (40000 : Int32)) dD_init_123 gw_1158 ?_
  refine ee_newI dD_init_125 (fun v125 w125 _ _ _ => ?_)
  refine ee_put dD_init_127 lpiD_54 (ee_nRA _ _) (fun w127 _ => ?_)
  refine ee_aload_n 0 dD_init_130 rfl ?_
  refine ee_sipush (v := (20000 : Int32)) dD_init_131 (by decide) ?_
  refine ee_newI dD_init_134 (fun v134 w134 _ _ _ => ?_)
  refine ee_put dD_init_136 lpiD_57 (ee_nRA _ _) (fun w136 _ => ?_)
  refine ee_aload_n 0 dD_init_139 rfl ?_
  refine ee_sipush (v := (20000 : Int32)) dD_init_140 (by decide) ?_
  refine ee_newI dD_init_143 (fun v143 w143 _ _ _ => ?_)
  refine ee_put dD_init_145 lpiD_60 (ee_nRA _ _) (fun w145 _ => ?_)
  refine ee_aload_n 0 dD_init_148 rfl ?_
  refine ee_sipush (v := (2600 : Int32)) dD_init_149 (by decide) ?_
  refine ee_newI dD_init_152 (fun v152 w152 _ _ _ => ?_)
  refine ee_put dD_init_154 lpiD_63 (ee_nRA _ _) (fun w154 _ => ?_)
  refine ee_aload_n 0 dD_init_157 rfl ?_
  refine ee_sipush (v := (2600 : Int32)) dD_init_158 (by decide) ?_
  refine ee_newI dD_init_161 (fun v161 w161 _ _ _ => ?_)
  refine ee_put dD_init_163 lpiD_66 (ee_nRA _ _) (fun w163 _ => ?_)
  refine ee_aload_n 0 dD_init_166 rfl ?_
  refine ee_sipush (v := (300 : Int32)) dD_init_167 (by decide) ?_
  refine ee_newI dD_init_170 (fun v170 w170 _ _ _ => ?_)
  refine ee_put dD_init_172 lpiD_69 (ee_nRA _ _) (fun w172 _ => ?_)
  refine ee_aload_n 0 dD_init_175 rfl ?_
  refine ee_sipush (v := (300 : Int32)) dD_init_176 (by decide) ?_
  refine ee_newI dD_init_179 (fun v179 w179 _ _ _ => ?_)
  refine ee_put dD_init_181 lpiD_72 (ee_nRA _ _) (fun w181 _ => ?_)
  refine ee_aload_n 0 dD_init_184 rfl ?_
  refine ee_sipush (v := (300 : Int32)) dD_init_185 (by decide) ?_
  refine ee_newI dD_init_188 (fun v188 w188 _ _ _ => ?_)
  refine ee_put dD_init_190 lpiD_75 (ee_nRA _ _) (fun w190 _ => ?_)
  refine ee_aload_n 0 dD_init_193 rfl ?_
  refine ee_sipush (v := (300 : Int32)) dD_init_194 (by decide) ?_
  refine ee_newI dD_init_197 (fun v197 w197 _ _ _ => ?_)
  refine ee_put dD_init_199 lpiD_78 (ee_nRA _ _) (fun w199 _ => ?_)
  refine ee_aload_n 0 dD_init_202 rfl ?_
  refine ee_sipush (v := (300 : Int32)) dD_init_203 (by decide) ?_
  refine ee_newI dD_init_206 (fun v206 w206 _ _ _ => ?_)
  refine ee_put dD_init_208 lpiD_81 (ee_nRA _ _) (fun w208 _ => ?_)
  refine ee_aload_n 0 dD_init_211 rfl ?_
  refine ee_sipush (v := (300 : Int32)) dD_init_212 (by decide) ?_
  refine ee_newZ dD_init_215 (fun v215 w215 _ _ _ => ?_)
  refine ee_put dD_init_217 lpiD_84 (ee_nRA _ _) (fun w217 _ => ?_)
  refine ee_aload_n 0 dD_init_220 rfl ?_
  refine ee_sipush (v := (300 : Int32)) dD_init_221 (by decide) ?_
  refine ee_newZ dD_init_224 (fun v224 w224 _ _ _ => ?_)
  refine ee_put dD_init_226 lpiD_87 (ee_nRA _ _) (fun w226 _ => ?_)
  refine ee_aload_n 0 dD_init_229 rfl ?_
  refine ee_bipush (v := (24 : Int32)) dD_init_230 (by decide) ?_
  refine ee_newI dD_init_232 (fun v232 w232 _ _ _ => ?_)
  refine ee_put dD_init_234 lpiD_90 (ee_nRA _ _) (fun w234 _ => ?_)
  refine ee_aload_n 0 dD_init_237 rfl ?_
  refine ee_sipush (v := (200 : Int32)) dD_init_238 (by decide) ?_
  refine ee_newI dD_init_241 (fun v241 w241 _ _ _ => ?_)
  refine ee_put dD_init_243 lpiD_93 (ee_nRA _ _) (fun w243 _ => ?_)
  refine ee_aload_n 0 dD_init_246 rfl ?_
  refine ee_iload_n 1 dD_init_247 rfl ?_
  refine ee_iconst (v := (1 : Int32)) dD_init_248 (by decide) ?_
  refine ee_sipush (v := (2000 : Int32)) dD_init_249 (by decide) ?_
  refine ee_callS (as := [.int l1, .int (1 : Int32), .int (2000 : Int32)]) (st := [.ref l0]) dD_init_252 (t_fD_near l1 (1 : Int32) (2000 : Int32) w243) my_fD_near.1 (Nat.le_of_ble_eq_true rfl) my_fD_near.2 rfl gw_1159 gw_1160 ⟨Nat.le_of_ble_eq_true rfl, Nat.le_of_ble_eq_true rfl⟩ (Nat.le_of_ble_eq_true rfl) (fun rv252 w252 _ => ?_)
  refine ee_kI (fun v252 => ?_)
  refine ee_put dD_init_255 lpiD_100 (ee_nI _) (fun w255 _ => ?_)
  refine ee_aload_n 0 dD_init_258 rfl ?_
  refine ee_iload_n 2 dD_init_259 rfl ?_
  refine ee_iconst (v := (1 : Int32)) dD_init_260 (by decide) ?_
  refine ee_sipush (v := (2000 : Int32)) dD_init_261 (by decide) ?_
  refine ee_callS (as := [.int l2, .int (1 : Int32), .int (2000 : Int32)]) (st := [.ref l0]) dD_init_264 (t_fD_near l2 (1 : Int32) (2000 : Int32) w255) my_fD_near.1 (Nat.le_of_ble_eq_true rfl) my_fD_near.2 rfl gw_1159 gw_1160 ⟨Nat.le_of_ble_eq_true rfl, Nat.le_of_ble_eq_true rfl⟩ (Nat.le_of_ble_eq_true rfl) (fun rv264 w264 _ => ?_)
  refine ee_kI (fun v264 => ?_)
  refine ee_put dD_init_267 lpiD_104 (ee_nI _) (fun w267 _ => ?_)
  refine ee_aload_n 0 dD_init_270 rfl ?_
  refine ee_bind (fun _ ho271 => ?_)
  refine ee_callV (as := []) (st := []) dD_init_271 (t_fD_clear l0 w267) my_fD_clear.1 (Nat.le_of_ble_eq_true rfl) my_fD_clear.2 rfl cf_10.1 rfl (p_obj_eq.mp ho271) gw_1162 gw_1163 gw_1164 ⟨Nat.le_of_ble_eq_true rfl, Nat.le_of_ble_eq_true rfl⟩ (Nat.le_of_ble_eq_true rfl) (fun rv271 w271 _ => ?_)
  refine ee_kV ?_
  exact ee_vret rfl dD_init_274
