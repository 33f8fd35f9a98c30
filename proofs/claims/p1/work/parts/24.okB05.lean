def rIdm5 : List Nat := [704]
theorem rM704 : rckM 704 = true := by decide +kernel
theorem rMl5 : ∀ y ∈ rIdm5, rckM y = true := List.forall_mem_cons.mpr ⟨rM704, fun _ h => absurd h List.not_mem_nil⟩
