/-! a name of the whole library, met first: all is read over the whole library from here on (part 12 needs it) -/
theorem wide_first : True := by
  have _h := @Jvm.Stand.multianewarray2F
  trivial
