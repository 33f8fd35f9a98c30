def rIdm5 : List Nat := [768]
theorem rM768 : rckM 768 = true := by decide +kernel
theorem rMl5 : ∀ y ∈ rIdm5, rckM y = true := List.forall_mem_cons.mpr ⟨rM768, fun _ h => absurd h List.not_mem_nil⟩
