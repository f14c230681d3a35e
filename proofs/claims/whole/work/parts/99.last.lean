theorem tc_last : True := trivial
