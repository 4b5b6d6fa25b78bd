theorem dm_last : True := trivial
