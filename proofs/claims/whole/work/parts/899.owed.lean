theorem none_owed : True := trivial
