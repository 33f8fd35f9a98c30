theorem rKids : rIds = rIdl0 ++ rIdl1 ++ rIdl2 ++ rIdl3 ++ rIdl4 ++ rIdl5 ++ rIdl6 ++ rIdl7 ++ rIdl8 ++ rIdl9 := by decide +kernel
theorem rKall : ∀ y ∈ rIds, (List.range (rYs y)).all (re_ckI (rYb y) (rIns y)) = true := by
  rw [rKids]
  intro y hy
  simp only [List.mem_append] at hy
  rcases hy with ((((((((hy | hy) | hy) | hy) | hy) | hy) | hy) | hy) | hy) | hy
  · exact rKl0 y hy
  · exact rKl1 y hy
  · exact rKl2 y hy
  · exact rKl3 y hy
  · exact rKl4 y hy
  · exact rKl5 y hy
  · exact rKl6 y hy
  · exact rKl7 y hy
  · exact rKl8 y hy
  · exact rKl9 y hy
