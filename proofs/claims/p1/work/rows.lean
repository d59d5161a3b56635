section
/-- no state whose tables don't know the array class of StackTraceElement meets the given conditions (the printed witness is such a state: REPORT.md, STATEMENT 2) -/
theorem ev_given {args : Array Value} {s : State} (h : s.vm.findClass "[Ljava/lang/StackTraceElement;" = none) : (Jvm.Cond.and given_1 narrow_1).before args s = false := by
  cases hb : (Jvm.Cond.and given_1 narrow_1).before args s with
  | false => rfl
  | true =>
    have hs := flat_of_before _ hb
    have hc : (Jvm.Cond.not (Jvm.Cond.castable "[Ljava/lang/StackTraceElement;" "java/lang/String")).before args s = true := hs _ (by decide +kernel)
    simp [Cond.before, Cond.holds, Cond.value, h] at hc
end
