theorem dt_look : True := trivial
