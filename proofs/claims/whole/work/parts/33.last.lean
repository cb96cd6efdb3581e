theorem mp_rows_end : True := trivial
