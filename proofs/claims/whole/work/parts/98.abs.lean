theorem abs_law : AbsLaw := sorry
