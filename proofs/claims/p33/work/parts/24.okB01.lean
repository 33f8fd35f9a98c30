def rIdm1 : List Nat := [22, 23, 24, 25, 26, 27, 28, 29, 30, 31, 32, 33, 34, 35, 36, 37, 38, 39, 64, 65, 66, 67, 68, 69, 70]
theorem rM22 : rckM 22 = true := by decide +kernel
theorem rM23 : rckM 23 = true := by decide +kernel
theorem rM24 : rckM 24 = true := by decide +kernel
theorem rM25 : rckM 25 = true := by decide +kernel
theorem rM26 : rckM 26 = true := by decide +kernel
theorem rM27 : rckM 27 = true := by decide +kernel
theorem rM28 : rckM 28 = true := by decide +kernel
theorem rM29 : rckM 29 = true := by decide +kernel
theorem rM30 : rckM 30 = true := by decide +kernel
theorem rM31 : rckM 31 = true := by decide +kernel
theorem rM32 : rckM 32 = true := by decide +kernel
theorem rM33 : rckM 33 = true := by decide +kernel
theorem rM34 : rckM 34 = true := by decide +kernel
theorem rM35 : rckM 35 = true := by decide +kernel
theorem rM36 : rckM 36 = true := by decide +kernel
theorem rM37 : rckM 37 = true := by decide +kernel
theorem rM38 : rckM 38 = true := by decide +kernel
theorem rM39 : rckM 39 = true := by decide +kernel
theorem rM64 : rckM 64 = true := by decide +kernel
theorem rM65 : rckM 65 = true := by decide +kernel
theorem rM66 : rckM 66 = true := by decide +kernel
theorem rM67 : rckM 67 = true := by decide +kernel
theorem rM68 : rckM 68 = true := by decide +kernel
theorem rM69 : rckM 69 = true := by decide +kernel
theorem rM70 : rckM 70 = true := by decide +kernel
theorem rMl1 : ∀ y ∈ rIdm1, rckM y = true := List.forall_mem_cons.mpr ⟨rM22, List.forall_mem_cons.mpr ⟨rM23, List.forall_mem_cons.mpr ⟨rM24, List.forall_mem_cons.mpr ⟨rM25, List.forall_mem_cons.mpr ⟨rM26, List.forall_mem_cons.mpr ⟨rM27, List.forall_mem_cons.mpr ⟨rM28, List.forall_mem_cons.mpr ⟨rM29, List.forall_mem_cons.mpr ⟨rM30, List.forall_mem_cons.mpr ⟨rM31, List.forall_mem_cons.mpr ⟨rM32, List.forall_mem_cons.mpr ⟨rM33, List.forall_mem_cons.mpr ⟨rM34, List.forall_mem_cons.mpr ⟨rM35, List.forall_mem_cons.mpr ⟨rM36, List.forall_mem_cons.mpr ⟨rM37, List.forall_mem_cons.mpr ⟨rM38, List.forall_mem_cons.mpr ⟨rM39, List.forall_mem_cons.mpr ⟨rM64, List.forall_mem_cons.mpr ⟨rM65, List.forall_mem_cons.mpr ⟨rM66, List.forall_mem_cons.mpr ⟨rM67, List.forall_mem_cons.mpr ⟨rM68, List.forall_mem_cons.mpr ⟨rM69, List.forall_mem_cons.mpr ⟨rM70, fun _ h => absurd h List.not_mem_nil⟩⟩⟩⟩⟩⟩⟩⟩⟩⟩⟩⟩⟩⟩⟩⟩⟩⟩⟩⟩⟩⟩⟩⟩⟩
