def rIdm6 : List Nat := [522, 523, 576, 577, 578, 579, 580, 581, 582]
theorem rM522 : rckM 522 = true := by decide +kernel
theorem rM523 : rckM 523 = true := by decide +kernel
theorem rM576 : rckM 576 = true := by decide +kernel
theorem rM577 : rckM 577 = true := by decide +kernel
theorem rM578 : rckM 578 = true := by decide +kernel
theorem rM579 : rckM 579 = true := by decide +kernel
theorem rM580 : rckM 580 = true := by decide +kernel
theorem rM581 : rckM 581 = true := by decide +kernel
theorem rM582 : rckM 582 = true := by decide +kernel
theorem rMl6 : ∀ y ∈ rIdm6, rckM y = true := List.forall_mem_cons.mpr ⟨rM522, List.forall_mem_cons.mpr ⟨rM523, List.forall_mem_cons.mpr ⟨rM576, List.forall_mem_cons.mpr ⟨rM577, List.forall_mem_cons.mpr ⟨rM578, List.forall_mem_cons.mpr ⟨rM579, List.forall_mem_cons.mpr ⟨rM580, List.forall_mem_cons.mpr ⟨rM581, List.forall_mem_cons.mpr ⟨rM582, fun _ h => absurd h List.not_mem_nil⟩⟩⟩⟩⟩⟩⟩⟩⟩
