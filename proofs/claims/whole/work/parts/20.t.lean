theorem t_test : True := trivial
