def rIdm3 : List Nat := [196, 197, 256, 320, 321, 322, 323, 324, 325, 326, 327, 328, 329, 330, 331, 332, 384, 385, 386, 387]
theorem rM196 : rckM 196 = true := by decide +kernel
theorem rM197 : rckM 197 = true := by decide +kernel
theorem rM256 : rckM 256 = true := by decide +kernel
theorem rM320 : rckM 320 = true := by decide +kernel
theorem rM321 : rckM 321 = true := by decide +kernel
theorem rM322 : rckM 322 = true := by decide +kernel
theorem rM323 : rckM 323 = true := by decide +kernel
theorem rM324 : rckM 324 = true := by decide +kernel
theorem rM325 : rckM 325 = true := by decide +kernel
theorem rM326 : rckM 326 = true := by decide +kernel
theorem rM327 : rckM 327 = true := by decide +kernel
theorem rM328 : rckM 328 = true := by decide +kernel
theorem rM329 : rckM 329 = true := by decide +kernel
theorem rM330 : rckM 330 = true := by decide +kernel
theorem rM331 : rckM 331 = true := by decide +kernel
theorem rM332 : rckM 332 = true := by decide +kernel
theorem rM384 : rckM 384 = true := by decide +kernel
theorem rM385 : rckM 385 = true := by decide +kernel
theorem rM386 : rckM 386 = true := by decide +kernel
theorem rM387 : rckM 387 = true := by decide +kernel
theorem rMl3 : ∀ y ∈ rIdm3, rckM y = true := List.forall_mem_cons.mpr ⟨rM196, List.forall_mem_cons.mpr ⟨rM197, List.forall_mem_cons.mpr ⟨rM256, List.forall_mem_cons.mpr ⟨rM320, List.forall_mem_cons.mpr ⟨rM321, List.forall_mem_cons.mpr ⟨rM322, List.forall_mem_cons.mpr ⟨rM323, List.forall_mem_cons.mpr ⟨rM324, List.forall_mem_cons.mpr ⟨rM325, List.forall_mem_cons.mpr ⟨rM326, List.forall_mem_cons.mpr ⟨rM327, List.forall_mem_cons.mpr ⟨rM328, List.forall_mem_cons.mpr ⟨rM329, List.forall_mem_cons.mpr ⟨rM330, List.forall_mem_cons.mpr ⟨rM331, List.forall_mem_cons.mpr ⟨rM332, List.forall_mem_cons.mpr ⟨rM384, List.forall_mem_cons.mpr ⟨rM385, List.forall_mem_cons.mpr ⟨rM386, List.forall_mem_cons.mpr ⟨rM387, fun _ h => absurd h List.not_mem_nil⟩⟩⟩⟩⟩⟩⟩⟩⟩⟩⟩⟩⟩⟩⟩⟩⟩⟩⟩⟩
