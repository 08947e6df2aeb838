/-! the equations of the methods (by program) -/
