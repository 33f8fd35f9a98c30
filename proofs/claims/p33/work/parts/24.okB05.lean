def rIdm5 : List Nat := [460, 461, 462, 463, 464, 512, 513, 514, 515, 516, 517, 518, 519, 520, 521]
theorem rM460 : rckM 460 = true := by decide +kernel
theorem rM461 : rckM 461 = true := by decide +kernel
theorem rM462 : rckM 462 = true := by decide +kernel
theorem rM463 : rckM 463 = true := by decide +kernel
theorem rM464 : rckM 464 = true := by decide +kernel
theorem rM512 : rckM 512 = true := by decide +kernel
theorem rM513 : rckM 513 = true := by decide +kernel
theorem rM514 : rckM 514 = true := by decide +kernel
theorem rM515 : rckM 515 = true := by decide +kernel
theorem rM516 : rckM 516 = true := by decide +kernel
theorem rM517 : rckM 517 = true := by decide +kernel
theorem rM518 : rckM 518 = true := by decide +kernel
theorem rM519 : rckM 519 = true := by decide +kernel
theorem rM520 : rckM 520 = true := by decide +kernel
theorem rM521 : rckM 521 = true := by decide +kernel
theorem rMl5 : ∀ y ∈ rIdm5, rckM y = true := List.forall_mem_cons.mpr ⟨rM460, List.forall_mem_cons.mpr ⟨rM461, List.forall_mem_cons.mpr ⟨rM462, List.forall_mem_cons.mpr ⟨rM463, List.forall_mem_cons.mpr ⟨rM464, List.forall_mem_cons.mpr ⟨rM512, List.forall_mem_cons.mpr ⟨rM513, List.forall_mem_cons.mpr ⟨rM514, List.forall_mem_cons.mpr ⟨rM515, List.forall_mem_cons.mpr ⟨rM516, List.forall_mem_cons.mpr ⟨rM517, List.forall_mem_cons.mpr ⟨rM518, List.forall_mem_cons.mpr ⟨rM519, List.forall_mem_cons.mpr ⟨rM520, List.forall_mem_cons.mpr ⟨rM521, fun _ h => absurd h List.not_mem_nil⟩⟩⟩⟩⟩⟩⟩⟩⟩⟩⟩⟩⟩⟩⟩
