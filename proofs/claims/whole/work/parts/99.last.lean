theorem zq_nothing : True := trivial
