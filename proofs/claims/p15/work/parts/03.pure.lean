/-! The pure world: cells by their places, and how it stands to the machine's heap. -/
abbrev PW : Type := List va_E × Nat × Nat
abbrev PR : Type := Option Value ⊕ String
abbrev PX : Type := Option (PR × PW)
/-- launch, class numbers and slots, array classes, which cells are ours, where the given tables lie, the script, what else is known of the start -/
abbrev PG : Type := Launch × va_G × List (ClassId × FieldType) × (Nat → Prop) × (Nat → Nat) × (Nat × (Nat → Int32)) × (State → Prop)
abbrev pg_l (Γ : PG) : Launch := Γ.1
abbrev pg_D (Γ : PG) : va_G := Γ.2.1
abbrev pg_T (Γ : PG) : List (ClassId × FieldType) := Γ.2.2.1
abbrev pg_A (Γ : PG) : Nat → Prop := Γ.2.2.2.1
abbrev pg_X (Γ : PG) : Nat → Nat := Γ.2.2.2.2.1
abbrev pg_S (Γ : PG) : Nat × (Nat → Int32) := Γ.2.2.2.2.2.1
abbrev pg_E (Γ : PG) : State → Prop := Γ.2.2.2.2.2.2
/-- class, name, code, locals, answer, frames, words of locals -/
abbrev PM : Type := String × MethodName × ByteArray × Nat × Option FieldType × Nat × Nat
abbrev pm_own (μ : PM) : String := μ.1
abbrev pm_y (μ : PM) : MethodName := μ.2.1
abbrev pm_cc (μ : PM) : ByteArray := μ.2.2.1
abbrev pm_nL (μ : PM) : Nat := μ.2.2.2.1
abbrev pm_ret (μ : PM) : Option FieldType := μ.2.2.2.2.1
abbrev pm_F (μ : PM) : Nat := μ.2.2.2.2.2.1
abbrev pm_L (μ : PM) : Nat := μ.2.2.2.2.2.2
def pz_vr (α : List Nat) (X : Nat → Nat) (v c : Value) : Prop := match v with
  | .ref i => ∃ a, α[i]? = some a ∧ c = .ref a
  | .retAddr k => c = .ref (X k)
  | .float _ => ∃ a, c = .ref a
  | .int x => c = .int x
  | .long x => c = .long x
  | .double x => c = .double x
  | .null => c = .null
def pz_le (α β : List Nat) : Prop := ∃ t, β = α ++ t
theorem pz_le.rf {α : List Nat} : pz_le α α := ⟨[], (List.append_nil α).symm⟩
theorem pz_le.tr {α β γ : List Nat} (h : pz_le α β) (k : pz_le β γ) : pz_le α γ := by
  obtain ⟨t, rfl⟩ := h
  obtain ⟨u, rfl⟩ := k
  exact ⟨t ++ u, List.append_assoc _ _ _⟩
theorem pz_le.get {α β : List Nat} (h : pz_le α β) {i a : Nat} (k : α[i]? = some a) : β[i]? = some a := by
  obtain ⟨t, rfl⟩ := h
  rw [List.getElem?_append_left (List.getElem?_eq_some_iff.mp k).1]
  exact k
theorem pz_vr.mono {α β : List Nat} {X : Nat → Nat} {v c : Value} (h : pz_vr α X v c) (hp : pz_le α β) : pz_vr β X v c := by
  cases v with
  | ref i => obtain ⟨a, h1, h2⟩ := h; exact ⟨a, hp.get h1, h2⟩
  | _ => exact h
theorem pz_vr.cat {α : List Nat} {X : Nat → Nat} {v c : Value} (h : pz_vr α X v c) : c.category = v.category := by
  cases v with
  | ref i => obtain ⟨a, -, rfl⟩ := h; rfl
  | float i => obtain ⟨a, rfl⟩ := h; rfl
  | retAddr k => rw [show c = .ref (X k) from h]; rfl
  | int x => rw [show c = .int x from h]
  | long x => rw [show c = .long x from h]
  | double x => rw [show c = .double x from h]
  | null => rw [show c = .null from h]
/-- locals -/
def pz_lr (α : List Nat) (X : Nat → Nat) : List (Nat × Value) → List (Nat × Value) → Prop
  | [], [] => True
  | q :: l, q' :: l' => q.1 = q'.1 ∧ pz_vr α X q.2 q'.2 ∧ pz_lr α X l l'
  | _, _ => False
theorem pz_lr.mono {α β : List Nat} {X : Nat → Nat} (hp : pz_le α β) : ∀ {l l' : List (Nat × Value)}, pz_lr α X l l' → pz_lr β X l l'
  | [], [], _ => trivial
  | _ :: _, _ :: _, h => ⟨h.1, h.2.1.mono hp, pz_lr.mono hp h.2.2⟩
  | [], _ :: _, h => h.elim
  | _ :: _, [], h => h.elim
theorem pz_lr.filter {α : List Nat} {X : Nat → Nat} (f : Nat → Nat → Bool) : ∀ {l l' : List (Nat × Value)}, pz_lr α X l l' → pz_lr α X (l.filter fun q => f q.1 q.2.category) (l'.filter fun q => f q.1 q.2.category)
  | [], [], _ => trivial
  | q :: l, q' :: l', h => by
    have ih := pz_lr.filter (α := α) (X := X) f h.2.2
    have e1 : f q'.1 q'.2.category = f q.1 q.2.category := by rw [h.1, h.2.1.cat]
    by_cases hc : f q.1 q.2.category = true
    · rw [List.filter_cons_of_pos (by exact hc), List.filter_cons_of_pos (by rw [e1]; exact hc)]
      exact ⟨h.1, h.2.1, ih⟩
    · rw [List.filter_cons_of_neg (by exact hc), List.filter_cons_of_neg (by rw [e1]; exact hc)]
      exact ih
  | [], _ :: _, h => h.elim
  | _ :: _, [], h => h.elim
theorem pz_lr.get {α : List Nat} {X : Nat → Nat} {i : Nat} {v : Value} : ∀ {l l' : List (Nat × Value)} {k : Nat}, pz_lr α X l l' → l[k]? = some (i, v) → ∃ c, (i, c) ∈ l' ∧ pz_vr α X v c
  | [], _, _, _, h => by simp at h
  | q :: l, [], _, h, _ => h.elim
  | q :: l, q' :: l', 0, h, e => by
    cases e
    refine ⟨q'.2, ?_, h.2.1⟩
    have e2 : q' = (i, q'.2) := by rw [show i = q'.1 from h.1]
    rw [← e2]
    exact List.mem_cons_self
  | q :: l, q' :: l', k + 1, h, e => by
    obtain ⟨c, h1, h2⟩ := pz_lr.get (k := k) h.2.2 (by simpa using e)
    exact ⟨c, List.mem_cons_of_mem _ h1, h2⟩
def p_let {α : Type} (a : α) (K : α → PX) : PX := K a
def p_idiv (x y : Int32) : Option Int32 := if y = 0 then none else some (x / y)
def p_irem (x y : Int32) : Option Int32 := if y = 0 then none else some (x - x / y * y)
def p_i2b (x : Int32) : Int32 := x.toInt8.toInt32
def p_ushr (x y : Int32) : Int32 := (x.toUInt32 >>> (y.toUInt32 &&& Int32.toUInt32 31)).toInt32
def p_ldiv (x y : Int64) : Option Int64 := if y = 0 then none else some (x / y)
def p_ishl (x y : Int32) : Int32 := x <<< (y &&& 31)
def p_ishr (x y : Int32) : Int32 := x >>> (y &&& 31)
def p_lshl (x : Int64) (y : Int32) : Int64 := x <<< (y.toInt64 &&& 63)
def p_max (x y : Int32) : Int32 := if x < y then y else x
def p_min (x y : Int32) : Int32 := if y < x then y else x
def p_pick (l : List (Nat × Value)) (ks : List Nat) : List (Nat × Value) := ks.filterMap (fun k => l[k]?)
theorem pz_lr.at {α : List Nat} {X : Nat → Nat} : ∀ {l l' : List (Nat × Value)}, pz_lr α X l l' → ∀ (k : Nat), (l[k]? = none ∧ l'[k]? = none) ∨ ∃ q q', l[k]? = some q ∧ l'[k]? = some q' ∧ q.1 = q'.1 ∧ pz_vr α X q.2 q'.2
  | [], [], _, k => Or.inl ⟨by simp, by simp⟩
  | q :: l, q' :: l', h, 0 => Or.inr ⟨q, q', rfl, rfl, h.1, h.2.1⟩
  | q :: l, q' :: l', h, k + 1 => by simpa using pz_lr.at h.2.2 k
  | [], _ :: _, h, _ => h.elim
  | _ :: _, [], h, _ => h.elim
theorem pz_lr.pick {α : List Nat} {X : Nat → Nat} {l l' : List (Nat × Value)} (h : pz_lr α X l l') : ∀ ks : List Nat, pz_lr α X (p_pick l ks) (lv_pick l' ks)
  | [] => trivial
  | k :: ks => by
    have ih := pz_lr.pick h ks
    rcases h.at k with ⟨h1, h2⟩ | ⟨q, q', h1, h2, h3, h4⟩
    · unfold p_pick lv_pick at *
      rw [List.filterMap_cons_none h1, List.filterMap_cons_none h2]
      exact ih
    · unfold p_pick lv_pick at *
      rw [List.filterMap_cons_some h1, List.filterMap_cons_some h2]
      exact ⟨h3, h4, ih⟩
/-- operand stack, fields -/
def pz_sr (α : List Nat) (X : Nat → Nat) : List Value → List Value → Prop
  | [], [] => True
  | q :: l, q' :: l' => pz_vr α X q q' ∧ pz_sr α X l l'
  | _, _ => False
theorem pz_sr.mono {α β : List Nat} {X : Nat → Nat} (hp : pz_le α β) : ∀ {l l' : List Value}, pz_sr α X l l' → pz_sr β X l l'
  | [], [], _ => trivial
  | _ :: _, _ :: _, h => ⟨h.1.mono hp, pz_sr.mono hp h.2⟩
  | [], _ :: _, h => h.elim
  | _ :: _, [], h => h.elim
theorem pz_sr.c {α : List Nat} {X : Nat → Nat} {v : Value} {l : List Value} : ∀ {l' : List Value}, pz_sr α X (v :: l) l' → ∃ c l1, l' = c :: l1 ∧ pz_vr α X v c ∧ pz_sr α X l l1
  | [], h => h.elim
  | c :: l1, h => ⟨c, l1, rfl, h.1, h.2⟩
theorem pz_sr.i {α : List Nat} {X : Nat → Nat} {x : Int32} {l l' : List Value} (h : pz_sr α X (.int x :: l) l') : ∃ l1, l' = .int x :: l1 ∧ pz_sr α X l l1 := by
  obtain ⟨c, l1, rfl, h1, h2⟩ := h.c
  exact ⟨l1, by rw [show c = .int x from h1], h2⟩
theorem pz_sr.l {α : List Nat} {X : Nat → Nat} {x : Int64} {l l' : List Value} (h : pz_sr α X (.long x :: l) l') : ∃ l1, l' = .long x :: l1 ∧ pz_sr α X l l1 := by
  obtain ⟨c, l1, rfl, h1, h2⟩ := h.c
  exact ⟨l1, by rw [show c = .long x from h1], h2⟩
theorem pz_sr.r {α : List Nat} {X : Nat → Nat} {i : Nat} {l l' : List Value} (h : pz_sr α X (.ref i :: l) l') : ∃ a l1, l' = .ref a :: l1 ∧ α[i]? = some a ∧ pz_sr α X l l1 := by
  obtain ⟨c, l1, rfl, ⟨a, h1, h3⟩, h2⟩ := h.c
  exact ⟨a, l1, by rw [h3], h1, h2⟩
theorem pz_sr.x {α : List Nat} {X : Nat → Nat} {k : Nat} {l l' : List Value} (h : pz_sr α X (.retAddr k :: l) l') : ∃ l1, l' = .ref (X k) :: l1 ∧ pz_sr α X l l1 := by
  obtain ⟨c, l1, rfl, h1, h2⟩ := h.c
  exact ⟨l1, by rw [show c = .ref (X k) from h1], h2⟩
theorem pz_sr.n {α : List Nat} {X : Nat → Nat} : ∀ {l' : List Value}, pz_sr α X [] l' → l' = []
  | [], _ => rfl
  | _ :: _, h => h.elim
theorem pz_sr.pc {α : List Nat} {X : Nat → Nat} {v c : Value} {l l' : List Value} (h : pz_vr α X v c) (k : pz_sr α X l l') : pz_sr α X (v :: l) (c :: l') := ⟨h, k⟩
theorem pz_sr.pi {α : List Nat} {X : Nat → Nat} {x : Int32} {l l' : List Value} (k : pz_sr α X l l') : pz_sr α X (.int x :: l) (.int x :: l') := ⟨rfl, k⟩
theorem pz_sr.pl {α : List Nat} {X : Nat → Nat} {x : Int64} {l l' : List Value} (k : pz_sr α X l l') : pz_sr α X (.long x :: l) (.long x :: l') := ⟨rfl, k⟩
theorem pz_sr.pr {α : List Nat} {X : Nat → Nat} {i a : Nat} {l l' : List Value} (h : α[i]? = some a) (k : pz_sr α X l l') : pz_sr α X (.ref i :: l) (.ref a :: l') := ⟨⟨a, h, rfl⟩, k⟩
theorem pz_sr.px {α : List Nat} {X : Nat → Nat} {i : Nat} {l l' : List Value} (k : pz_sr α X l l') : pz_sr α X (.retAddr i :: l) (.ref (X i) :: l') := ⟨rfl, k⟩
theorem pz_sr.len {α : List Nat} {X : Nat → Nat} : ∀ {l l' : List Value}, pz_sr α X l l' → l'.length = l.length
  | [], [], _ => rfl
  | _ :: _, _ :: _, h => by simp [pz_sr.len h.2]
  | [], _ :: _, h => h.elim
  | _ :: _, [], h => h.elim
theorem pz_sr.cats {α : List Nat} {X : Nat → Nat} : ∀ {l l' : List Value}, pz_sr α X l l' → (l'.map fun v => v.category) = l.map fun v => v.category
  | [], [], _ => rfl
  | _ :: _, _ :: _, h => by simp [pz_sr.cats h.2, h.1.cat]
  | [], _ :: _, h => h.elim
  | _ :: _, [], h => h.elim
theorem pz_sr.app {α : List Nat} {X : Nat → Nat} {k k' : List Value} (hk : pz_sr α X k k') : ∀ {l l' : List Value}, pz_sr α X l l' → pz_sr α X (l ++ k) (l' ++ k')
  | [], [], _ => hk
  | _ :: _, _ :: _, h => ⟨h.1, pz_sr.app hk h.2⟩
  | [], _ :: _, h => h.elim
  | _ :: _, [], h => h.elim
theorem pz_sr.split {α : List Nat} {X : Nat → Nat} {k : List Value} : ∀ {l l' : List Value}, pz_sr α X (l ++ k) l' → ∃ l1 k1, l' = l1 ++ k1 ∧ pz_sr α X l l1 ∧ pz_sr α X k k1
  | [], l', h => ⟨[], l', rfl, trivial, h⟩
  | _ :: _, [], h => h.elim
  | _ :: _, c :: _, h => by
    obtain ⟨l1, k1, e, h1, h2⟩ := pz_sr.split h.2
    exact ⟨c :: l1, k1, by rw [e]; rfl, ⟨h.1, h1⟩, h2⟩
theorem pz_sr.rev {α : List Nat} {X : Nat → Nat} : ∀ {l l' : List Value}, pz_sr α X l l' → pz_sr α X l.reverse l'.reverse
  | [], [], _ => trivial
  | _ :: _, _ :: _, h => by
    rw [List.reverse_cons, List.reverse_cons]
    exact pz_sr.app (k := [_]) (k' := [_]) ⟨h.1, trivial⟩ (pz_sr.rev h.2)
  | [], _ :: _, h => h.elim
  | _ :: _, [], h => h.elim
theorem pz_sr.get {α : List Nat} {X : Nat → Nat} : ∀ {l l' : List Value}, pz_sr α X l l' → ∀ {k : Nat} {v : Value}, l[k]? = some v → ∃ c, l'[k]? = some c ∧ pz_vr α X v c
  | [], [], _, k, v, h => by simp at h
  | q :: l, q' :: l', h, 0, v, e => by cases e; exact ⟨q', rfl, h.1⟩
  | q :: l, q' :: l', h, k + 1, v, e => by simpa using pz_sr.get h.2 (k := k) (by simpa using e)
  | [], _ :: _, h, _, _, _ => h.elim
  | _ :: _, [], h, _, _, _ => h.elim
theorem pz_sr.set {α : List Nat} {X : Nat → Nat} {v c : Value} (hv : pz_vr α X v c) : ∀ {l l' : List Value}, pz_sr α X l l' → ∀ (k : Nat), pz_sr α X (l.set k v) (l'.set k c)
  | [], [], _, _ => trivial
  | _ :: _, _ :: _, h, 0 => ⟨hv, h.2⟩
  | _ :: _, _ :: _, h, k + 1 => ⟨h.1, pz_sr.set hv h.2 k⟩
  | [], _ :: _, h, _ => h.elim
  | _ :: _, [], h, _ => h.elim
theorem pz_args {α : List Nat} {X : Nat → Nat} : ∀ {l l' : List Value} (i : Nat), pz_sr α X l l' → pz_lr α X (lv_args i l) (lv_args i l')
  | [], [], _, _ => trivial
  | v :: l, c :: l', i, h => by
    have e := h.1.cat
    unfold lv_args
    rw [e]
    exact ⟨rfl, h.1, pz_args _ h.2⟩
  | [], _ :: _, _, h => h.elim
  | _ :: _, [], _, h => h.elim
theorem pz_sl {α : List Nat} {X : Nat → Nat} : ∀ {l l' : List Value}, pz_sr α X l l' → (lg_sl l').length = (lg_sl l).length
  | [], [], _ => rfl
  | v :: l, c :: l', h => by
    have ih := pz_sl h.2
    have e := h.1.cat
    unfold lg_sl at *
    rw [List.flatMap_cons, List.flatMap_cons, List.length_append, List.length_append, ih, e]
    split <;> rfl
  | [], _ :: _, h => h.elim
  | _ :: _, [], h => h.elim
/-- cells -/
def pz_or (α : List Nat) (f g : Option Nat) : Prop := match f with
  | none => g = none
  | some i => ∃ a, α[i]? = some a ∧ g = some a
theorem pz_or.mono {α β : List Nat} {f g : Option Nat} (h : pz_or α f g) (hp : pz_le α β) : pz_or β f g := by
  cases f with
  | none => exact h
  | some i => obtain ⟨a, h1, h2⟩ := h; exact ⟨a, hp.get h1, h2⟩
def pz_kr (α : List Nat) (x y : (Nat → Int32) ⊕ (Nat → Int64) ⊕ (Nat → UInt32) ⊕ (Nat → UInt64) ⊕ (Nat → Option Nat)) : Prop := match x with
  | .inl f => y = .inl f
  | .inr (.inl f) => y = .inr (.inl f)
  | .inr (.inr (.inl f)) => y = .inr (.inr (.inl f))
  | .inr (.inr (.inr (.inl f))) => y = .inr (.inr (.inr (.inl f)))
  | .inr (.inr (.inr (.inr f))) => ∃ g, y = .inr (.inr (.inr (.inr g))) ∧ ∀ j, pz_or α (f j) (g j)
def pz_cr (α : List Nat) (X : Nat → Nat) (tys : List (ClassId × FieldType)) (x y : va_E) : Prop := match x with
  | .inl (t, n, f) => ∃ c ty g, tys[t]? = some (c, ty) ∧ y = .inl (c, n, g) ∧ pz_kr α f g
  | .inr (ci, fs) => ∃ gs, y = .inr (ci, gs) ∧ pz_sr α X fs gs
theorem pz_kr.mono {α β : List Nat} {x y : (Nat → Int32) ⊕ (Nat → Int64) ⊕ (Nat → UInt32) ⊕ (Nat → UInt64) ⊕ (Nat → Option Nat)} (h : pz_kr α x y) (hp : pz_le α β) : pz_kr β x y := by
  match x, h with
  | .inl f, h => exact h
  | .inr (.inl f), h => exact h
  | .inr (.inr (.inl f)), h => exact h
  | .inr (.inr (.inr (.inl f))), h => exact h
  | .inr (.inr (.inr (.inr f))), h => obtain ⟨g, h1, h2⟩ := h; exact ⟨g, h1, fun j => (h2 j).mono hp⟩
theorem pz_cr.mono {α β : List Nat} {X : Nat → Nat} {tys : List (ClassId × FieldType)} {x y : va_E} (h : pz_cr α X tys x y) (hp : pz_le α β) : pz_cr β X tys x y := by
  match x, h with
  | .inl (t, n, f), h => obtain ⟨c, ty, g, h1, h2, h3⟩ := h; exact ⟨c, ty, g, h1, h2, h3.mono hp⟩
  | .inr (ci, fs), h => obtain ⟨gs, h1, h2⟩ := h; exact ⟨gs, h1, h2.mono hp⟩
/-- the world -/
def pz_wr (α : List Nat) (X : Nat → Nat) (tys : List (ClassId × FieldType)) (w : List va_E) (ws : va_W) : Prop := α.length = w.length ∧ ws.length = w.length ∧ ∀ (i : Nat) (x : va_E), w[i]? = some x → ∃ a y, α[i]? = some a ∧ ws[i]? = some (a, y) ∧ pz_cr α X tys x y
theorem pz_wr.at {α : List Nat} {X : Nat → Nat} {tys : List (ClassId × FieldType)} {w : List va_E} {ws : va_W} (h : pz_wr α X tys w ws) {i a : Nat} {x : va_E} (ha : α[i]? = some a) (hx : w[i]? = some x) : ∃ y, ws[i]? = some (a, y) ∧ pz_cr α X tys x y := by
  obtain ⟨a', y, h1, h2, h3⟩ := h.2.2 i x hx
  cases ha.symm.trans h1
  exact ⟨y, h2, h3⟩
theorem pz_wr.set {α : List Nat} {X : Nat → Nat} {tys : List (ClassId × FieldType)} {w : List va_E} {ws : va_W} (h : pz_wr α X tys w ws) {i a : Nat} {x y : va_E} (ha : α[i]? = some a) (hc : pz_cr α X tys x y) : pz_wr α X tys (w.set i x) (ws.set i (a, y)) := by
  refine ⟨by rw [List.length_set]; exact h.1, by rw [List.length_set, List.length_set]; exact h.2.1, fun j z hz => ?_⟩
  have hj : j < w.length := by
    have := (List.getElem?_eq_some_iff.mp hz).1
    rwa [List.length_set] at this
  by_cases e : i = j
  · subst e
    rw [List.getElem?_set_self hj] at hz
    cases hz
    refine ⟨a, y, ha, ?_, hc⟩
    rw [List.getElem?_set_self (by rw [h.2.1]; exact hj)]
  · rw [List.getElem?_set_ne e] at hz
    obtain ⟨a', y', h1, h2, h3⟩ := h.2.2 j z hz
    exact ⟨a', y', h1, by rw [List.getElem?_set_ne e]; exact h2, h3⟩
theorem pz_wr.push {α : List Nat} {X : Nat → Nat} {tys : List (ClassId × FieldType)} {w : List va_E} {ws : va_W} (h : pz_wr α X tys w ws) {q : Nat} {x y : va_E} (hc : pz_cr α X tys x y) : pz_wr (α ++ [q]) X tys (w ++ [x]) (ws ++ [(q, y)]) := by
  have hp : pz_le α (α ++ [q]) := ⟨[q], rfl⟩
  refine ⟨by simp [h.1], by simp [h.2.1], fun j z hz => ?_⟩
  by_cases e : j < w.length
  · rw [List.getElem?_append_left e] at hz
    obtain ⟨a', y', h1, h2, h3⟩ := h.2.2 j z hz
    exact ⟨a', y', hp.get h1, by rw [List.getElem?_append_left (by rw [h.2.1]; exact e)]; exact h2, h3.mono hp⟩
  · have hj := (List.getElem?_eq_some_iff.mp hz).1
    rw [List.length_append, List.length_singleton] at hj
    have ej : j = w.length := by omega
    subst ej
    rw [List.getElem?_append_right (Nat.le_refl _), Nat.sub_self] at hz
    cases hz
    refine ⟨q, y, ?_, ?_, hc.mono hp⟩
    · rw [← h.1, List.getElem?_append_right (Nat.le_refl _), Nat.sub_self]; rfl
    · rw [← h.2.1, List.getElem?_append_right (Nat.le_refl _), Nat.sub_self]; rfl
theorem pz_wr.new {α : List Nat} {X : Nat → Nat} {tys : List (ClassId × FieldType)} {w : List va_E} {ws : va_W} (h : pz_wr α X tys w ws) (q : Nat) : (α ++ [q])[w.length]? = some q := by
  rw [← h.1, List.getElem?_append_right (Nat.le_refl _), Nat.sub_self]; rfl
