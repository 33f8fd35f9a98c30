def rIdm7 : List Nat := [583, 584, 585, 586]
theorem rM583 : rckM 583 = true := by decide +kernel
theorem rM584 : rckM 584 = true := by decide +kernel
theorem rM585 : rckM 585 = true := by decide +kernel
theorem rM586 : rckM 586 = true := by decide +kernel
theorem rMl7 : ∀ y ∈ rIdm7, rckM y = true := List.forall_mem_cons.mpr ⟨rM583, List.forall_mem_cons.mpr ⟨rM584, List.forall_mem_cons.mpr ⟨rM585, List.forall_mem_cons.mpr ⟨rM586, fun _ h => absurd h List.not_mem_nil⟩⟩⟩⟩
