theorem q_end : True := trivial
