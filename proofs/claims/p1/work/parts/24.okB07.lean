def rIdm7 : List Nat := [733, 734, 735, 736, 737, 738, 739, 740, 741, 742, 743, 744, 745, 746, 747, 748, 749, 750, 751, 752, 753, 754, 768, 769]
theorem rM733 : rckM 733 = true := by decide +kernel
theorem rM734 : rckM 734 = true := by decide +kernel
theorem rM735 : rckM 735 = true := by decide +kernel
theorem rM736 : rckM 736 = true := by decide +kernel
theorem rM737 : rckM 737 = true := by decide +kernel
theorem rM738 : rckM 738 = true := by decide +kernel
theorem rM739 : rckM 739 = true := by decide +kernel
theorem rM740 : rckM 740 = true := by decide +kernel
theorem rM741 : rckM 741 = true := by decide +kernel
theorem rM742 : rckM 742 = true := by decide +kernel
theorem rM743 : rckM 743 = true := by decide +kernel
theorem rM744 : rckM 744 = true := by decide +kernel
theorem rM745 : rckM 745 = true := by decide +kernel
theorem rM746 : rckM 746 = true := by decide +kernel
theorem rM747 : rckM 747 = true := by decide +kernel
theorem rM748 : rckM 748 = true := by decide +kernel
theorem rM749 : rckM 749 = true := by decide +kernel
theorem rM750 : rckM 750 = true := by decide +kernel
theorem rM751 : rckM 751 = true := by decide +kernel
theorem rM752 : rckM 752 = true := by decide +kernel
theorem rM753 : rckM 753 = true := by decide +kernel
theorem rM754 : rckM 754 = true := by decide +kernel
theorem rM768 : rckM 768 = true := by decide +kernel
theorem rM769 : rckM 769 = true := by decide +kernel
theorem rMl7 : ∀ y ∈ rIdm7, rckM y = true := List.forall_mem_cons.mpr ⟨rM733, List.forall_mem_cons.mpr ⟨rM734, List.forall_mem_cons.mpr ⟨rM735, List.forall_mem_cons.mpr ⟨rM736, List.forall_mem_cons.mpr ⟨rM737, List.forall_mem_cons.mpr ⟨rM738, List.forall_mem_cons.mpr ⟨rM739, List.forall_mem_cons.mpr ⟨rM740, List.forall_mem_cons.mpr ⟨rM741, List.forall_mem_cons.mpr ⟨rM742, List.forall_mem_cons.mpr ⟨rM743, List.forall_mem_cons.mpr ⟨rM744, List.forall_mem_cons.mpr ⟨rM745, List.forall_mem_cons.mpr ⟨rM746, List.forall_mem_cons.mpr ⟨rM747, List.forall_mem_cons.mpr ⟨rM748, List.forall_mem_cons.mpr ⟨rM749, List.forall_mem_cons.mpr ⟨rM750, List.forall_mem_cons.mpr ⟨rM751, List.forall_mem_cons.mpr ⟨rM752, List.forall_mem_cons.mpr ⟨rM753, List.forall_mem_cons.mpr ⟨rM754, List.forall_mem_cons.mpr ⟨rM768, List.forall_mem_cons.mpr ⟨rM769, fun _ h => absurd h List.not_mem_nil⟩⟩⟩⟩⟩⟩⟩⟩⟩⟩⟩⟩⟩⟩⟩⟩⟩⟩⟩⟩⟩⟩⟩⟩
