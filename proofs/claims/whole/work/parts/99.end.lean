theorem z_end : True := trivial
