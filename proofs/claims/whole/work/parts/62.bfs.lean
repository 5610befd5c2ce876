/-! a place for rows -/
theorem place_62 : True := trivial
