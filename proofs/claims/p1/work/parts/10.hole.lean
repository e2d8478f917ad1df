/-! Each start that meets this statement's premises has the array class of StackTraceElement in its table; the printed start has not. -/
theorem hq_and {args : Array Value} {s : State} {a b : Cond} (h : (Cond.and a b).before args s = true) : a.before args s = true ∧ b.before args s = true := by
  rw [Cond.before_and, Bool.and_eq_true] at h
  exact h
theorem hq_cast {args : Array Value} {s : State} {c t : String} (h : (Cond.not (Cond.castable c t)).before args s = true) : ∃ k, s.vm.findClass c = some k := by
  cases hc : s.vm.findClass c with
  | some k => exact ⟨k, rfl⟩
  | none => simp [Cond.before, Cond.holds, Cond.value, hc] at h
theorem hq_hole {args : Array Value} {s : State} (h : narrow_1_2.before args s = true) : ∃ k, s.vm.findClass "[Ljava/lang/StackTraceElement;" = some k :=
  hq_cast (hq_and (hq_and (hq_and (hq_and (hq_and (hq_and (hq_and (hq_and (hq_and h).1).1).1).1).1).2).2).2).1
theorem hq_pre {tb : Tables} {e : Env} {a : Array Value} {s : State} (h : Pre_1 tb e a s) : ∃ k, s.vm.findClass "[Ljava/lang/StackTraceElement;" = some k := by
  have h1 : (Cond.and given_1 narrow_1).before a s = true := h
  have h2 : (Cond.and (Cond.and narrow_1_1 narrow_1_2) (Cond.and narrow_1_3 (Cond.and narrow_1_4 narrow_1_5))).before a s = true := (hq_and h1).2
  exact hq_hole (hq_and (hq_and h2).1).2
