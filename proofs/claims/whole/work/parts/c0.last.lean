theorem lastT : True := trivial
