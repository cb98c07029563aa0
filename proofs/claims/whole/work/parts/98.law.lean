theorem law_is : law_pure := sorry
