/-! part 98zz52 needs the library's rest: named here first, so that all parts are read over the whole of it from the beginning -/
theorem wd_1 : True := by
  have _h := @Stand.thenCaughtThrough
  trivial
