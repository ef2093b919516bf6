theorem wt_last : True := trivial
