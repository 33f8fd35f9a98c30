theorem rK733 : (List.range (rYs 733)).all (re_ckI (rYb 733) (rIns 733)) = true := by decide +kernel
theorem rK734 : (List.range (rYs 734)).all (re_ckI (rYb 734) (rIns 734)) = true := by decide +kernel
theorem rK735 : (List.range (rYs 735)).all (re_ckI (rYb 735) (rIns 735)) = true := by decide +kernel
theorem rK736 : (List.range (rYs 736)).all (re_ckI (rYb 736) (rIns 736)) = true := by decide +kernel
theorem rK737 : (List.range (rYs 737)).all (re_ckI (rYb 737) (rIns 737)) = true := by decide +kernel
theorem rK738 : (List.range (rYs 738)).all (re_ckI (rYb 738) (rIns 738)) = true := by decide +kernel
theorem rK739 : (List.range (rYs 739)).all (re_ckI (rYb 739) (rIns 739)) = true := by decide +kernel
theorem rK740 : (List.range (rYs 740)).all (re_ckI (rYb 740) (rIns 740)) = true := by decide +kernel
theorem rK741 : (List.range (rYs 741)).all (re_ckI (rYb 741) (rIns 741)) = true := by decide +kernel
theorem rK742 : (List.range (rYs 742)).all (re_ckI (rYb 742) (rIns 742)) = true := by decide +kernel
theorem rK743 : (List.range (rYs 743)).all (re_ckI (rYb 743) (rIns 743)) = true := by decide +kernel
theorem rK744 : (List.range (rYs 744)).all (re_ckI (rYb 744) (rIns 744)) = true := by decide +kernel
theorem rK745 : (List.range (rYs 745)).all (re_ckI (rYb 745) (rIns 745)) = true := by decide +kernel
theorem rK746 : (List.range (rYs 746)).all (re_ckI (rYb 746) (rIns 746)) = true := by decide +kernel
theorem rK747 : (List.range (rYs 747)).all (re_ckI (rYb 747) (rIns 747)) = true := by decide +kernel
theorem rK748 : (List.range (rYs 748)).all (re_ckI (rYb 748) (rIns 748)) = true := by decide +kernel
theorem rK749 : (List.range (rYs 749)).all (re_ckI (rYb 749) (rIns 749)) = true := by decide +kernel
theorem rK750 : (List.range (rYs 750)).all (re_ckI (rYb 750) (rIns 750)) = true := by decide +kernel
theorem rK751 : (List.range (rYs 751)).all (re_ckI (rYb 751) (rIns 751)) = true := by decide +kernel
theorem rK752 : (List.range (rYs 752)).all (re_ckI (rYb 752) (rIns 752)) = true := by decide +kernel
theorem rK753 : (List.range (rYs 753)).all (re_ckI (rYb 753) (rIns 753)) = true := by decide +kernel
theorem rK754 : (List.range (rYs 754)).all (re_ckI (rYb 754) (rIns 754)) = true := by decide +kernel
theorem rK768 : (List.range (rYs 768)).all (re_ckI (rYb 768) (rIns 768)) = true := by decide +kernel
theorem rK769 : (List.range (rYs 769)).all (re_ckI (rYb 769) (rIns 769)) = true := by decide +kernel
def rIdl7 : List Nat := [733, 734, 735, 736, 737, 738, 739, 740, 741, 742, 743, 744, 745, 746, 747, 748, 749, 750, 751, 752, 753, 754, 768, 769]
theorem rKl7 : ∀ y ∈ rIdl7, (List.range (rYs y)).all (re_ckI (rYb y) (rIns y)) = true := List.forall_mem_cons.mpr ⟨rK733, List.forall_mem_cons.mpr ⟨rK734, List.forall_mem_cons.mpr ⟨rK735, List.forall_mem_cons.mpr ⟨rK736, List.forall_mem_cons.mpr ⟨rK737, List.forall_mem_cons.mpr ⟨rK738, List.forall_mem_cons.mpr ⟨rK739, List.forall_mem_cons.mpr ⟨rK740, List.forall_mem_cons.mpr ⟨rK741, List.forall_mem_cons.mpr ⟨rK742, List.forall_mem_cons.mpr ⟨rK743, List.forall_mem_cons.mpr ⟨rK744, List.forall_mem_cons.mpr ⟨rK745, List.forall_mem_cons.mpr ⟨rK746, List.forall_mem_cons.mpr ⟨rK747, List.forall_mem_cons.mpr ⟨rK748, List.forall_mem_cons.mpr ⟨rK749, List.forall_mem_cons.mpr ⟨rK750, List.forall_mem_cons.mpr ⟨rK751, List.forall_mem_cons.mpr ⟨rK752, List.forall_mem_cons.mpr ⟨rK753, List.forall_mem_cons.mpr ⟨rK754, List.forall_mem_cons.mpr ⟨rK768, List.forall_mem_cons.mpr ⟨rK769, fun _ h => absurd h List.not_mem_nil⟩⟩⟩⟩⟩⟩⟩⟩⟩⟩⟩⟩⟩⟩⟩⟩⟩⟩⟩⟩⟩⟩⟩⟩
