/-- evidence for REPORT.md: no start whose VM lacks the class of arrays of StackTraceElement meets this claim's own premises; the printed start lacks it -/
theorem zz_start {args : Array Value} {s : State} (hn : s.vm.findClass "[Ljava/lang/StackTraceElement;" = none) : ¬ (Jvm.Cond.and given_1 narrow_1).before args s = true := by
  intro h
  have hs := flat_of_before _ h
  have hc : (Jvm.Cond.not (Jvm.Cond.castable "[Ljava/lang/StackTraceElement;" "java/lang/String")).before args s = true := hs _ (by decide +kernel)
  simp [Jvm.Cond.before, Jvm.Cond.holds, Jvm.Cond.value, hn] at hc
