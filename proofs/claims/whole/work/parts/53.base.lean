/-! what both sides stand on: places of the data, facts -/
theorem base_ok : True := trivial
