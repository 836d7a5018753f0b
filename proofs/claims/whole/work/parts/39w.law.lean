/-! LAW -/
theorem law_0 : True := trivial
