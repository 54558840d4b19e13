/-! names a row of the whole library first of all, so that the round is read over the whole of it from its first part on -/
theorem am_wide : True := by
  have := @Stand.multianewarray2F
  trivial
