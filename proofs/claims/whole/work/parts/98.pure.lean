theorem law_pure : lawPure := by sorry
