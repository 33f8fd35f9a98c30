def rIdm3 : List Nat := [457, 458, 459, 460, 461, 462, 463, 464, 512, 513, 514, 515, 516, 517, 518, 519, 520, 521, 522, 523, 576, 577]
theorem rM457 : rckM 457 = true := by decide +kernel
theorem rM458 : rckM 458 = true := by decide +kernel
theorem rM459 : rckM 459 = true := by decide +kernel
theorem rM460 : rckM 460 = true := by decide +kernel
theorem rM461 : rckM 461 = true := by decide +kernel
theorem rM462 : rckM 462 = true := by decide +kernel
theorem rM463 : rckM 463 = true := by decide +kernel
theorem rM464 : rckM 464 = true := by decide +kernel
theorem rM512 : rckM 512 = true := by decide +kernel
theorem rM513 : rckM 513 = true := by decide +kernel
theorem rM514 : rckM 514 = true := by decide +kernel
theorem rM515 : rckM 515 = true := by decide +kernel
theorem rM516 : rckM 516 = true := by decide +kernel
theorem rM517 : rckM 517 = true := by decide +kernel
theorem rM518 : rckM 518 = true := by decide +kernel
theorem rM519 : rckM 519 = true := by decide +kernel
theorem rM520 : rckM 520 = true := by decide +kernel
theorem rM521 : rckM 521 = true := by decide +kernel
theorem rM522 : rckM 522 = true := by decide +kernel
theorem rM523 : rckM 523 = true := by decide +kernel
theorem rM576 : rckM 576 = true := by decide +kernel
theorem rM577 : rckM 577 = true := by decide +kernel
theorem rMl3 : ∀ y ∈ rIdm3, rckM y = true := List.forall_mem_cons.mpr ⟨rM457, List.forall_mem_cons.mpr ⟨rM458, List.forall_mem_cons.mpr ⟨rM459, List.forall_mem_cons.mpr ⟨rM460, List.forall_mem_cons.mpr ⟨rM461, List.forall_mem_cons.mpr ⟨rM462, List.forall_mem_cons.mpr ⟨rM463, List.forall_mem_cons.mpr ⟨rM464, List.forall_mem_cons.mpr ⟨rM512, List.forall_mem_cons.mpr ⟨rM513, List.forall_mem_cons.mpr ⟨rM514, List.forall_mem_cons.mpr ⟨rM515, List.forall_mem_cons.mpr ⟨rM516, List.forall_mem_cons.mpr ⟨rM517, List.forall_mem_cons.mpr ⟨rM518, List.forall_mem_cons.mpr ⟨rM519, List.forall_mem_cons.mpr ⟨rM520, List.forall_mem_cons.mpr ⟨rM521, List.forall_mem_cons.mpr ⟨rM522, List.forall_mem_cons.mpr ⟨rM523, List.forall_mem_cons.mpr ⟨rM576, List.forall_mem_cons.mpr ⟨rM577, fun _ h => absurd h List.not_mem_nil⟩⟩⟩⟩⟩⟩⟩⟩⟩⟩⟩⟩⟩⟩⟩⟩⟩⟩⟩⟩⟩⟩
