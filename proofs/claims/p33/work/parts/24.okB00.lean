def rIdm0 : List Nat := [0, 1, 2, 3, 4, 5, 6, 7, 8, 9, 10, 11, 12, 13, 14, 15, 16, 17, 18, 19, 20, 21]
theorem rM0 : rckM 0 = true := by decide +kernel
theorem rM1 : rckM 1 = true := by decide +kernel
theorem rM2 : rckM 2 = true := by decide +kernel
theorem rM3 : rckM 3 = true := by decide +kernel
theorem rM4 : rckM 4 = true := by decide +kernel
theorem rM5 : rckM 5 = true := by decide +kernel
theorem rM6 : rckM 6 = true := by decide +kernel
theorem rM7 : rckM 7 = true := by decide +kernel
theorem rM8 : rckM 8 = true := by decide +kernel
theorem rM9 : rckM 9 = true := by decide +kernel
theorem rM10 : rckM 10 = true := by decide +kernel
theorem rM11 : rckM 11 = true := by decide +kernel
theorem rM12 : rckM 12 = true := by decide +kernel
theorem rM13 : rckM 13 = true := by decide +kernel
theorem rM14 : rckM 14 = true := by decide +kernel
theorem rM15 : rckM 15 = true := by decide +kernel
theorem rM16 : rckM 16 = true := by decide +kernel
theorem rM17 : rckM 17 = true := by decide +kernel
theorem rM18 : rckM 18 = true := by decide +kernel
theorem rM19 : rckM 19 = true := by decide +kernel
theorem rM20 : rckM 20 = true := by decide +kernel
theorem rM21 : rckM 21 = true := by decide +kernel
theorem rMl0 : ∀ y ∈ rIdm0, rckM y = true := List.forall_mem_cons.mpr ⟨rM0, List.forall_mem_cons.mpr ⟨rM1, List.forall_mem_cons.mpr ⟨rM2, List.forall_mem_cons.mpr ⟨rM3, List.forall_mem_cons.mpr ⟨rM4, List.forall_mem_cons.mpr ⟨rM5, List.forall_mem_cons.mpr ⟨rM6, List.forall_mem_cons.mpr ⟨rM7, List.forall_mem_cons.mpr ⟨rM8, List.forall_mem_cons.mpr ⟨rM9, List.forall_mem_cons.mpr ⟨rM10, List.forall_mem_cons.mpr ⟨rM11, List.forall_mem_cons.mpr ⟨rM12, List.forall_mem_cons.mpr ⟨rM13, List.forall_mem_cons.mpr ⟨rM14, List.forall_mem_cons.mpr ⟨rM15, List.forall_mem_cons.mpr ⟨rM16, List.forall_mem_cons.mpr ⟨rM17, List.forall_mem_cons.mpr ⟨rM18, List.forall_mem_cons.mpr ⟨rM19, List.forall_mem_cons.mpr ⟨rM20, List.forall_mem_cons.mpr ⟨rM21, fun _ h => absurd h List.not_mem_nil⟩⟩⟩⟩⟩⟩⟩⟩⟩⟩⟩⟩⟩⟩⟩⟩⟩⟩⟩⟩⟩⟩
