/-! the exceptions' chains -/
def pz_oaB (own : String) (ic : Nat) (cls : String) (names : List String) : Bool := (Bundle.ownAtoms own ic cls names).all (fun a => (decide (a ∈ lw_tbl) && (goodWord a || pz_wk a)) || decide (a = .isRef (.static "java/lang/Throwable" "UNASSIGNED_STACK" "[Ljava/lang/StackTraceElement;")) || decide (a = .isRef (.static "java/lang/Throwable" "SUPPRESSED_SENTINEL" "Ljava/util/List;")) || decide (a = .laysStatic "java/lang/Throwable" "UNASSIGNED_STACK" "[Ljava/lang/StackTraceElement;") || decide (a = .laysStatic "java/lang/Throwable" "SUPPRESSED_SENTINEL" "Ljava/util/List;"))
theorem pz_oa_of {own : String} {ic : Nat} {cls : String} {names : List String} (h : pz_oaB own ic cls names = true) : pz_oa own ic cls names := by
  intro a ha
  have h1 := List.all_eq_true.mp h a ha
  simp only [Bool.or_eq_true, Bool.and_eq_true, decide_eq_true_eq] at h1
  rcases h1 with (((⟨h1, h2 | h2⟩ | h1) | h1) | h1) | h1
  · exact Or.inl (Or.inl (pz_in h1 h2))
  · exact Or.inl (Or.inr (pz_inN h1 h2))
  · exact Or.inr (Or.inl h1)
  · exact Or.inr (Or.inr (Or.inl h1))
  · exact Or.inr (Or.inr (Or.inr (Or.inl h1)))
  · exact Or.inr (Or.inr (Or.inr (Or.inr h1)))
theorem oa_95 : pz_oa "WaveFiles" 95 "java/lang/IndexOutOfBoundsException" ["java/lang/RuntimeException", "java/lang/Exception"] := pz_oa_of (by decide +kernel)
theorem oa_109 : pz_oa "WaveFiles" 109 "java/lang/IllegalStateException" ["java/lang/RuntimeException", "java/lang/Exception"] := pz_oa_of (by decide +kernel)
theorem oa_118 : pz_oa "WaveFiles" 118 "java/lang/IllegalArgumentException" ["java/lang/RuntimeException", "java/lang/Exception"] := pz_oa_of (by decide +kernel)
theorem oa_140 : pz_oa "WaveFiles" 140 "java/lang/UnsupportedOperationException" ["java/lang/RuntimeException", "java/lang/Exception"] := pz_oa_of (by decide +kernel)
