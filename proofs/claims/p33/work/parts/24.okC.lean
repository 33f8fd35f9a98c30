def rIdm : List Nat := rIdm0 ++ rIdm1 ++ rIdm2 ++ rIdm3 ++ rIdm4 ++ rIdm5 ++ rIdm6 ++ rIdm7 ++ rIdm8 ++ rIdm9
theorem rMall : ∀ y ∈ rIdm, rckM y = true := by
  unfold rIdm
  intro y hy
  simp only [List.mem_append] at hy
  rcases hy with ((((((((hy | hy) | hy) | hy) | hy) | hy) | hy) | hy) | hy) | hy
  · exact rMl0 y hy
  · exact rMl1 y hy
  · exact rMl2 y hy
  · exact rMl3 y hy
  · exact rMl4 y hy
  · exact rMl5 y hy
  · exact rMl6 y hy
  · exact rMl7 y hy
  · exact rMl8 y hy
  · exact rMl9 y hy
