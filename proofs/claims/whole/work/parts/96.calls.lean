theorem s_load : Same (f_X_load 0) (f_M_load 299) := sorry
