/-! 99: the last part, kept small: it is compiled in every round -/
theorem end_99 : True := trivial
