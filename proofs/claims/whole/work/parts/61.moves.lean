/-! a place for rows -/
theorem place_61 : True := trivial
