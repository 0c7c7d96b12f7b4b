/-! the rounds are read over the whole library (an array of arrays is made: its row stands there) -/
theorem wd_fill : True := by
  have _h := @Jvm.Free.Multi.fill_facts
  trivial
