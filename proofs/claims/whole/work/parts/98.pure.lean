theorem pure_all : Pure := by sorry
