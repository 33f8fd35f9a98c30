def rIdm8 : List Nat := [587]
theorem rM587 : rckM 587 = true := by decide +kernel
theorem rMl8 : ∀ y ∈ rIdm8, rckM y = true := List.forall_mem_cons.mpr ⟨rM587, fun _ h => absurd h List.not_mem_nil⟩
