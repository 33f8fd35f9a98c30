def rIdm8 : List Nat := [834, 835, 836, 837, 838, 839, 840, 841, 842, 843, 844, 845, 846, 847, 848]
theorem rM834 : rckM 834 = true := by decide +kernel
theorem rM835 : rckM 835 = true := by decide +kernel
theorem rM836 : rckM 836 = true := by decide +kernel
theorem rM837 : rckM 837 = true := by decide +kernel
theorem rM838 : rckM 838 = true := by decide +kernel
theorem rM839 : rckM 839 = true := by decide +kernel
theorem rM840 : rckM 840 = true := by decide +kernel
theorem rM841 : rckM 841 = true := by decide +kernel
theorem rM842 : rckM 842 = true := by decide +kernel
theorem rM843 : rckM 843 = true := by decide +kernel
theorem rM844 : rckM 844 = true := by decide +kernel
theorem rM845 : rckM 845 = true := by decide +kernel
theorem rM846 : rckM 846 = true := by decide +kernel
theorem rM847 : rckM 847 = true := by decide +kernel
theorem rM848 : rckM 848 = true := by decide +kernel
theorem rMl8 : ∀ y ∈ rIdm8, rckM y = true := List.forall_mem_cons.mpr ⟨rM834, List.forall_mem_cons.mpr ⟨rM835, List.forall_mem_cons.mpr ⟨rM836, List.forall_mem_cons.mpr ⟨rM837, List.forall_mem_cons.mpr ⟨rM838, List.forall_mem_cons.mpr ⟨rM839, List.forall_mem_cons.mpr ⟨rM840, List.forall_mem_cons.mpr ⟨rM841, List.forall_mem_cons.mpr ⟨rM842, List.forall_mem_cons.mpr ⟨rM843, List.forall_mem_cons.mpr ⟨rM844, List.forall_mem_cons.mpr ⟨rM845, List.forall_mem_cons.mpr ⟨rM846, List.forall_mem_cons.mpr ⟨rM847, List.forall_mem_cons.mpr ⟨rM848, fun _ h => absurd h List.not_mem_nil⟩⟩⟩⟩⟩⟩⟩⟩⟩⟩⟩⟩⟩⟩⟩
