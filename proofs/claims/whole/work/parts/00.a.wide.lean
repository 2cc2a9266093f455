/-- a name of the rest of the library: the claim is read over the whole of it from its first part on -/
theorem wd_first : True := by
  have _h := @Jvm.Stand.thenCaughtThrough
  exact True.intro
