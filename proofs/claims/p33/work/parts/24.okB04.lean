def rIdm4 : List Nat := [388, 448, 449, 450, 451, 452, 453, 454, 455, 456, 457, 458, 459]
theorem rM388 : rckM 388 = true := by decide +kernel
theorem rM448 : rckM 448 = true := by decide +kernel
theorem rM449 : rckM 449 = true := by decide +kernel
theorem rM450 : rckM 450 = true := by decide +kernel
theorem rM451 : rckM 451 = true := by decide +kernel
theorem rM452 : rckM 452 = true := by decide +kernel
theorem rM453 : rckM 453 = true := by decide +kernel
theorem rM454 : rckM 454 = true := by decide +kernel
theorem rM455 : rckM 455 = true := by decide +kernel
theorem rM456 : rckM 456 = true := by decide +kernel
theorem rM457 : rckM 457 = true := by decide +kernel
theorem rM458 : rckM 458 = true := by decide +kernel
theorem rM459 : rckM 459 = true := by decide +kernel
theorem rMl4 : ∀ y ∈ rIdm4, rckM y = true := List.forall_mem_cons.mpr ⟨rM388, List.forall_mem_cons.mpr ⟨rM448, List.forall_mem_cons.mpr ⟨rM449, List.forall_mem_cons.mpr ⟨rM450, List.forall_mem_cons.mpr ⟨rM451, List.forall_mem_cons.mpr ⟨rM452, List.forall_mem_cons.mpr ⟨rM453, List.forall_mem_cons.mpr ⟨rM454, List.forall_mem_cons.mpr ⟨rM455, List.forall_mem_cons.mpr ⟨rM456, List.forall_mem_cons.mpr ⟨rM457, List.forall_mem_cons.mpr ⟨rM458, List.forall_mem_cons.mpr ⟨rM459, fun _ h => absurd h List.not_mem_nil⟩⟩⟩⟩⟩⟩⟩⟩⟩⟩⟩⟩⟩
