/-- a split of an argument -/
theorem ee_splA {Γ : PG} {μ : PM} {pc : Nat} {st : List Value} {w : PW} {v : Value} {K1 : Nat → PX} {K2 : PX} {as bs : List Value} (k1 : ∀ x, EE Γ μ pc (lv_args 0 (as ++ .ref x :: bs)) st w (K1 x)) (k2 : EE Γ μ pc (lv_args 0 (as ++ .retAddr 3 :: bs)) st w K2) : EE Γ μ pc (lv_args 0 (as ++ v :: bs)) st w (p_spl v K1 K2) := by
  match v with
  | .ref x => exact k1 x
  | .retAddr n =>
    show EE Γ μ pc (lv_args 0 (as ++ .retAddr n :: bs)) st w (if n = 3 then K2 else none)
    by_cases h : n = 3
    · subst h; rw [if_pos rfl]; exact k2
    · rw [if_neg h]; exact ee_none
  | .int _ => exact ee_none
  | .long _ => exact ee_none
  | .float _ => exact ee_none
  | .double _ => exact ee_none
  | .null => exact ee_none
