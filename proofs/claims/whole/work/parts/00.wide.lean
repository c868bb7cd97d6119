/-- names two laws of the library's last part, so that a round is read over the whole of it -/
theorem zz_wide : True := by
  have h1 := @Jvm.Stand.thenCaughtThrough
  have h2 := @Jvm.Stand.outThrough
  trivial
