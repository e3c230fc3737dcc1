theorem dummy_x : True := trivial
