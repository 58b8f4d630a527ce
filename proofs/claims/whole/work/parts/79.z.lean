theorem zz_last : True := True.intro
