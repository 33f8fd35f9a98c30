theorem rMall : ∀ y ∈ rIds, rckM y = true := by
  rw [rKids]
  intro y hy
  simp only [List.mem_append] at hy
  rcases hy with ((((((hy | hy) | hy) | hy) | hy) | hy) | hy) | hy
  · exact rMl0 y hy
  · exact rMl1 y hy
  · exact rMl2 y hy
  · exact rMl3 y hy
  · exact rMl4 y hy
  · exact rMl5 y hy
  · exact rMl6 y hy
  · exact rMl7 y hy
