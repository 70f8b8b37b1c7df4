theorem look_last : True := trivial
