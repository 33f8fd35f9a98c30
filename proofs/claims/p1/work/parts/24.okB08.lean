def rIdm8 : List Nat := [770, 771, 772, 773, 774, 775, 776, 777, 778, 779, 780, 781, 782, 783]
theorem rM770 : rckM 770 = true := by decide +kernel
theorem rM771 : rckM 771 = true := by decide +kernel
theorem rM772 : rckM 772 = true := by decide +kernel
theorem rM773 : rckM 773 = true := by decide +kernel
theorem rM774 : rckM 774 = true := by decide +kernel
theorem rM775 : rckM 775 = true := by decide +kernel
theorem rM776 : rckM 776 = true := by decide +kernel
theorem rM777 : rckM 777 = true := by decide +kernel
theorem rM778 : rckM 778 = true := by decide +kernel
theorem rM779 : rckM 779 = true := by decide +kernel
theorem rM780 : rckM 780 = true := by decide +kernel
theorem rM781 : rckM 781 = true := by decide +kernel
theorem rM782 : rckM 782 = true := by decide +kernel
theorem rM783 : rckM 783 = true := by decide +kernel
theorem rMl8 : ∀ y ∈ rIdm8, rckM y = true := List.forall_mem_cons.mpr ⟨rM770, List.forall_mem_cons.mpr ⟨rM771, List.forall_mem_cons.mpr ⟨rM772, List.forall_mem_cons.mpr ⟨rM773, List.forall_mem_cons.mpr ⟨rM774, List.forall_mem_cons.mpr ⟨rM775, List.forall_mem_cons.mpr ⟨rM776, List.forall_mem_cons.mpr ⟨rM777, List.forall_mem_cons.mpr ⟨rM778, List.forall_mem_cons.mpr ⟨rM779, List.forall_mem_cons.mpr ⟨rM780, List.forall_mem_cons.mpr ⟨rM781, List.forall_mem_cons.mpr ⟨rM782, List.forall_mem_cons.mpr ⟨rM783, fun _ h => absurd h List.not_mem_nil⟩⟩⟩⟩⟩⟩⟩⟩⟩⟩⟩⟩⟩⟩
