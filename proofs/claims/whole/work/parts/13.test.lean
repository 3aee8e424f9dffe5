theorem zz_test : True := trivial
