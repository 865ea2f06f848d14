theorem pg_last : True := trivial
