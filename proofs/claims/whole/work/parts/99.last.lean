theorem zz_t : True := by trivial
