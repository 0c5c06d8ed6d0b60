theorem cq_last : True := trivial
