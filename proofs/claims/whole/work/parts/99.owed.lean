theorem kd_end : True := trivial
