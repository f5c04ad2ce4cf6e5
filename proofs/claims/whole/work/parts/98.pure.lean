theorem pure_law : PureLaw := sorry
