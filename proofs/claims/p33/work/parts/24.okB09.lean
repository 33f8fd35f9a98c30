def rIdm9 : List Nat := [640, 641, 642, 643, 644, 704, 768]
theorem rM640 : rckM 640 = true := by decide +kernel
theorem rM641 : rckM 641 = true := by decide +kernel
theorem rM642 : rckM 642 = true := by decide +kernel
theorem rM643 : rckM 643 = true := by decide +kernel
theorem rM644 : rckM 644 = true := by decide +kernel
theorem rM704 : rckM 704 = true := by decide +kernel
theorem rM768 : rckM 768 = true := by decide +kernel
theorem rMl9 : ∀ y ∈ rIdm9, rckM y = true := List.forall_mem_cons.mpr ⟨rM640, List.forall_mem_cons.mpr ⟨rM641, List.forall_mem_cons.mpr ⟨rM642, List.forall_mem_cons.mpr ⟨rM643, List.forall_mem_cons.mpr ⟨rM644, List.forall_mem_cons.mpr ⟨rM704, List.forall_mem_cons.mpr ⟨rM768, fun _ h => absurd h List.not_mem_nil⟩⟩⟩⟩⟩⟩⟩
