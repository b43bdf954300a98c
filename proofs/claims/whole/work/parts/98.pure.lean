theorem am_pure : amPure := sorry
