def c_set (a : Nat) : List va_E := [.inr (7, [.ref (a + 1), .ref (a + 2), .ref (a + 3), .ref (a + 4), .ref (a + 5), .int 1, .int 1]), .inl (0, 3, .inl fun _ => 0), .inl (0, 4, .inl fun _ => 0), .inl (0, 875, .inl fun _ => 0), .inl (2, 125, .inl fun _ => 0), .inl (2, 125, .inl fun _ => 0)]
theorem n_set (w : List va_E) (n m : Nat) (R : Nat → PW → PX) : (p_newO (w, n, m) 7 7 [.null, .null, .null, .null, .null, .int 0, .int 0] fun v5 w5 => p_call (fSettings_init v5 w5) <| p_kV fun w9 => R v5 w9) = R w.length (w ++ c_set w.length, n + 6, m + 1139) := by
  simp [p_newO, p_newA, p_put, p_obj, fSettings_init, p_call, p_kV, c_set]
theorem n_al (w : List va_E) (n m : Nat) (R : Nat → PW → PX) : (p_newO (w, n, m) 11 3 [.int 0, .null, .int 0] fun v16 w16 => p_call (fAL_init1 v16 w16) <| p_kV fun w20 => R v16 w20) = R w.length (w ++ [.inr (11, [.int 0, .retAddr 3, .int 0])], n + 1, m + 3) := by
  simp [p_newO, p_put, p_obj, fAL_init1, fAbstractList_init, fAbstractCollection_init, p_call, p_kV]
def c_byt (a : Nat) (mo : Int32) : List va_E := [.inr (2, [.int mo, .ref (a + 1), .int 0]), .inl (1, 32, .inl fun _ => 0)]
theorem n_byt (w : List va_E) (n m : Nat) (mo : Int32) (R : Nat → PW → PX) : (p_newO (w, n, m) 2 3 [.int 0, .null, .int 0] fun v16 w16 => p_call (fBytes_init v16 mo w16) <| p_kV fun w20 => R v16 w20) = R w.length (w ++ c_byt w.length mo, n + 2, m + 35) := by
  simp [p_newO, p_newA, p_put, p_obj, fBytes_init, p_call, p_kV, c_byt]
theorem n_wri (w : List va_E) (n m : Nat) (R : Nat → PW → PX) : (p_newO (w, n, m) 9 1 [.null] fun v16 w16 => p_call (fWriter_init v16 w16) <| p_kV fun w20 => R v16 w20) = R w.length (w ++ (.inr (9, [.ref (w.length + 1)]) :: c_byt (w.length + 1) 20000), n + 3, m + 36) := by
  simp [p_newO, p_newA, p_put, p_obj, fBytes_init, fWriter_init, p_call, p_kV, c_byt]
theorem n_box (w : List va_E) (n m : Nat) (b : Nat) (R : PW → PX) : p_call (fBoxReader_init w.length b (w ++ [.inr (1, [.null, .null, .null, .int 0, .int 0, .int 0])], n + 1, m + 6)) (p_kV R) = R (w ++ [.inr (1, [.ref b, .ref (w.length + 1), .ref (w.length + 3), .int (-1), .int 0, .int 0]), .inr (5, [.ref (w.length + 2), .int 0]), .inl (0, 8, .inl fun _ => 0), .inr (5, [.ref (w.length + 4), .int 0]), .inl (0, 8, .inl fun _ => 0)], n + 5, m + 26) := by
  simp [p_newO, p_newA, p_put, p_obj, fBoxReader_init, fNumbers_init, p_call, p_kV]
theorem n_hea (w : List va_E) (n m : Nat) (b c : Nat) (R : PW → PX) : p_call (fHeadReader_init w.length b c (w ++ [.inr (3, [.null, .null, .int 0])], n + 1, m + 3)) (p_kV R) = R (w ++ [.inr (3, [.ref b, .ref c, .int 0])], n + 1, m + 3) := by
  simp [p_put, p_obj, fHeadReader_init, p_call, p_kV]
theorem n_par (w : List va_E) (n m : Nat) (b c d : Nat) (R : PW → PX) : p_call (fPartReader_init w.length b c d (w ++ [.inr (6, [.null, .null, .null, .null, .null, .null, .null, .null, .null, .null, .null, .int 0, .int 0])], n + 1, m + 13)) (p_kV R) = R (w ++ [.inr (6, [.ref b, .ref c, .ref d, .ref (w.length + 1), .ref (w.length + 2), .ref (w.length + 3), .ref (w.length + 4), .ref (w.length + 5), .ref (w.length + 6), .ref (w.length + 7), .ref (w.length + 8), .int 0, .int 0]), .inl (0, 300, .inl fun _ => 0), .inl (0, 300, .inl fun _ => 0), .inl (0, 300, .inl fun _ => 0), .inl (0, 300, .inl fun _ => 0), .inl (0, 300, .inl fun _ => 0), .inl (2, 300, .inl fun _ => 0), .inl (0, 24, .inl fun _ => 0), .inl (0, 200, .inl fun _ => 0)], n + 9, m + 2037) := by
  simp [p_newA, p_put, p_obj, fPartReader_init, p_call, p_kV]

theorem z_put (fs : List Value) (T : List va_E) (q : Nat × Nat) (k : Nat) (v : Value) (h : k < fs.length) : p_put (.inr (0, fs) :: T, q) 0 0 k v = some (.inr (0, fs.set k v) :: T, q) := by
  simp [p_put, p_obj, h]
theorem z_getR (fs : List Value) (T : List va_E) (q : Nat × Nat) (k r : Nat) (h : fs[k]? = some (.ref r)) : p_getR (.inr (0, fs) :: T, q) 0 0 k = some r := by
  simp [p_getR, p_obj, h, p_vR]
theorem z_getR2 (fs : List Value) (T U : List va_E) (q : Nat × Nat) (k r : Nat) (h : fs[k]? = some (.ref r)) : p_getR ((.inr (0, fs) :: T) ++ U, q) 0 0 k = some r := z_getR fs (T ++ U) q k r h
theorem x_newO {w : List va_E} {n m ci N : Nat} {fs : List Value} {K} : p_newO (w, n, m) ci N fs K = K w.length (w ++ [.inr (ci, fs)], n + 1, m + N) := rfl
theorem z_app (c : va_E) (T U : List va_E) : (c :: T) ++ U = c :: (T ++ U) := rfl
def w_1 : List va_E := .inr (0, [.ref 1, .ref 7, .ref 8, .ref 9, .ref 12, .ref 14, .ref 16, .ref 22, .ref 27, .ref 28, .int 0]) :: (c_set 1 ++ [.inr (11, [.int 0, .retAddr 3, .int 0]), .inr (11, [.int 0, .retAddr 3, .int 0]), .inr (9, [.ref 10])] ++ c_byt 10 20000 ++ c_byt 12 20000 ++ c_byt 14 20000 ++ c_set 16 ++ [.inr (1, [.ref 14, .ref 23, .ref 25, .int (-1), .int 0, .int 0]), .inr (5, [.ref 24, .int 0]), .inl (0, 8, .inl fun _ => 0), .inr (5, [.ref 26, .int 0]), .inl (0, 8, .inl fun _ => 0), .inr (3, [.ref 14, .ref 16, .int 0]), .inr (6, [.ref 14, .ref 16, .ref 27, .ref 29, .ref 30, .ref 31, .ref 32, .ref 33, .ref 34, .ref 35, .ref 36, .int 0, .int 0]), .inl (0, 300, .inl fun _ => 0), .inl (0, 300, .inl fun _ => 0), .inl (0, 300, .inl fun _ => 0), .inl (0, 300, .inl fun _ => 0), .inl (0, 300, .inl fun _ => 0), .inl (2, 300, .inl fun _ => 0), .inl (0, 24, .inl fun _ => 0), .inl (0, 200, .inl fun _ => 0)])
theorem w_init (x y : Int32) : fW_init 0 x y ([.inr (0, [.null, .null, .null, .null, .null, .null, .null, .null, .null, .null, .int 0])], 1, 11) = p_call (fSettings_restart 1 (p_max 1 (p_min 2000 x)) (p_max 1 (p_min 2000 y)) (w_1, 37, 4467)) (p_kV fun w => some (.inl none, w)) := by
  unfold fW_init
  rw [n_set, z_app, z_put _ _ _ _ _ (by simp), Option.bind_some]
  rw [n_al, z_app, z_put _ _ _ _ _ (by simp), Option.bind_some]
  rw [n_al, z_app, z_put _ _ _ _ _ (by simp), Option.bind_some]
  rw [n_wri, z_app, z_put _ _ _ _ _ (by simp), Option.bind_some]
  rw [n_byt, z_app, z_put _ _ _ _ _ (by simp), Option.bind_some]
  rw [n_byt, z_app, z_put _ _ _ _ _ (by simp), Option.bind_some]
  rw [n_set, z_app, z_put _ _ _ _ _ (by simp), Option.bind_some]
  rw [x_newO, z_getR2 _ _ _ _ 5 14 rfl, Option.bind_some, n_box, z_app, z_put _ _ _ _ _ (by simp), Option.bind_some]
  rw [x_newO, z_getR2 _ _ _ _ 5 14 rfl, Option.bind_some, z_getR2 _ _ _ _ 6 16 rfl, Option.bind_some, n_hea, z_app, z_put _ _ _ _ _ (by simp), Option.bind_some]
  rw [x_newO, z_getR2 _ _ _ _ 5 14 rfl, Option.bind_some, z_getR2 _ _ _ _ 6 16 rfl, Option.bind_some, z_getR2 _ _ _ _ 8 27 rfl, Option.bind_some, n_par, z_app, z_put _ _ _ _ _ (by simp), Option.bind_some, if_neg (show ¬ ¬ ((0 : Int32) = 0 ∨ (0 : Int32) = 1) from not_not_intro (Or.inl rfl)), z_put _ _ _ _ _ (by simp), Option.bind_some]
  simp only [List.set_cons_zero, List.set_cons_succ, List.length_cons, List.length_nil, c_set, c_byt, List.cons_append, List.nil_append, Nat.reduceAdd, Nat.zero_add]
  rw [z_getR _ _ _ 0 1 rfl, Option.bind_some]
  unfold fW_nearestSide
  rw [q_call, q_kI, q_call, q_kI]
  simp only [w_1, c_set, c_byt, List.cons_append, List.nil_append, Nat.reduceAdd]
  rw [q_obj (c := 7) (a := 1) rfl, Option.bind_some]
