def rIdm2 : List Nat := [71, 128, 129, 130, 131, 132, 133, 134, 135, 136, 137, 138, 139, 140, 192, 193, 194, 195]
theorem rM71 : rckM 71 = true := by decide +kernel
theorem rM128 : rckM 128 = true := by decide +kernel
theorem rM129 : rckM 129 = true := by decide +kernel
theorem rM130 : rckM 130 = true := by decide +kernel
theorem rM131 : rckM 131 = true := by decide +kernel
theorem rM132 : rckM 132 = true := by decide +kernel
theorem rM133 : rckM 133 = true := by decide +kernel
theorem rM134 : rckM 134 = true := by decide +kernel
theorem rM135 : rckM 135 = true := by decide +kernel
theorem rM136 : rckM 136 = true := by decide +kernel
theorem rM137 : rckM 137 = true := by decide +kernel
theorem rM138 : rckM 138 = true := by decide +kernel
theorem rM139 : rckM 139 = true := by decide +kernel
theorem rM140 : rckM 140 = true := by decide +kernel
theorem rM192 : rckM 192 = true := by decide +kernel
theorem rM193 : rckM 193 = true := by decide +kernel
theorem rM194 : rckM 194 = true := by decide +kernel
theorem rM195 : rckM 195 = true := by decide +kernel
theorem rMl2 : ∀ y ∈ rIdm2, rckM y = true := List.forall_mem_cons.mpr ⟨rM71, List.forall_mem_cons.mpr ⟨rM128, List.forall_mem_cons.mpr ⟨rM129, List.forall_mem_cons.mpr ⟨rM130, List.forall_mem_cons.mpr ⟨rM131, List.forall_mem_cons.mpr ⟨rM132, List.forall_mem_cons.mpr ⟨rM133, List.forall_mem_cons.mpr ⟨rM134, List.forall_mem_cons.mpr ⟨rM135, List.forall_mem_cons.mpr ⟨rM136, List.forall_mem_cons.mpr ⟨rM137, List.forall_mem_cons.mpr ⟨rM138, List.forall_mem_cons.mpr ⟨rM139, List.forall_mem_cons.mpr ⟨rM140, List.forall_mem_cons.mpr ⟨rM192, List.forall_mem_cons.mpr ⟨rM193, List.forall_mem_cons.mpr ⟨rM194, List.forall_mem_cons.mpr ⟨rM195, fun _ h => absurd h List.not_mem_nil⟩⟩⟩⟩⟩⟩⟩⟩⟩⟩⟩⟩⟩⟩⟩⟩⟩⟩
