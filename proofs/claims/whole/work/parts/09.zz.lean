theorem g_zz : True := trivial
