def rIdm7 : List Nat := [797, 798, 799, 800, 801, 802, 803, 804, 805, 806, 807, 808, 809, 810, 811, 812, 813, 814, 815, 816, 817, 818, 832, 833]
theorem rM797 : rckM 797 = true := by decide +kernel
theorem rM798 : rckM 798 = true := by decide +kernel
theorem rM799 : rckM 799 = true := by decide +kernel
theorem rM800 : rckM 800 = true := by decide +kernel
theorem rM801 : rckM 801 = true := by decide +kernel
theorem rM802 : rckM 802 = true := by decide +kernel
theorem rM803 : rckM 803 = true := by decide +kernel
theorem rM804 : rckM 804 = true := by decide +kernel
theorem rM805 : rckM 805 = true := by decide +kernel
theorem rM806 : rckM 806 = true := by decide +kernel
theorem rM807 : rckM 807 = true := by decide +kernel
theorem rM808 : rckM 808 = true := by decide +kernel
theorem rM809 : rckM 809 = true := by decide +kernel
theorem rM810 : rckM 810 = true := by decide +kernel
theorem rM811 : rckM 811 = true := by decide +kernel
theorem rM812 : rckM 812 = true := by decide +kernel
theorem rM813 : rckM 813 = true := by decide +kernel
theorem rM814 : rckM 814 = true := by decide +kernel
theorem rM815 : rckM 815 = true := by decide +kernel
theorem rM816 : rckM 816 = true := by decide +kernel
theorem rM817 : rckM 817 = true := by decide +kernel
theorem rM818 : rckM 818 = true := by decide +kernel
theorem rM832 : rckM 832 = true := by decide +kernel
theorem rM833 : rckM 833 = true := by decide +kernel
theorem rMl7 : ∀ y ∈ rIdm7, rckM y = true := List.forall_mem_cons.mpr ⟨rM797, List.forall_mem_cons.mpr ⟨rM798, List.forall_mem_cons.mpr ⟨rM799, List.forall_mem_cons.mpr ⟨rM800, List.forall_mem_cons.mpr ⟨rM801, List.forall_mem_cons.mpr ⟨rM802, List.forall_mem_cons.mpr ⟨rM803, List.forall_mem_cons.mpr ⟨rM804, List.forall_mem_cons.mpr ⟨rM805, List.forall_mem_cons.mpr ⟨rM806, List.forall_mem_cons.mpr ⟨rM807, List.forall_mem_cons.mpr ⟨rM808, List.forall_mem_cons.mpr ⟨rM809, List.forall_mem_cons.mpr ⟨rM810, List.forall_mem_cons.mpr ⟨rM811, List.forall_mem_cons.mpr ⟨rM812, List.forall_mem_cons.mpr ⟨rM813, List.forall_mem_cons.mpr ⟨rM814, List.forall_mem_cons.mpr ⟨rM815, List.forall_mem_cons.mpr ⟨rM816, List.forall_mem_cons.mpr ⟨rM817, List.forall_mem_cons.mpr ⟨rM818, List.forall_mem_cons.mpr ⟨rM832, List.forall_mem_cons.mpr ⟨rM833, fun _ h => absurd h List.not_mem_nil⟩⟩⟩⟩⟩⟩⟩⟩⟩⟩⟩⟩⟩⟩⟩⟩⟩⟩⟩⟩⟩⟩⟩⟩
