theorem rK728 : (List.range (rYs 728)).all (re_ckI (rYb 728) (rIns 728)) = true := by decide +kernel
theorem rK729 : (List.range (rYs 729)).all (re_ckI (rYb 729) (rIns 729)) = true := by decide +kernel
theorem rK730 : (List.range (rYs 730)).all (re_ckI (rYb 730) (rIns 730)) = true := by decide +kernel
theorem rK731 : (List.range (rYs 731)).all (re_ckI (rYb 731) (rIns 731)) = true := by decide +kernel
theorem rK732 : (List.range (rYs 732)).all (re_ckI (rYb 732) (rIns 732)) = true := by decide +kernel
theorem rK733 : (List.range (rYs 733)).all (re_ckI (rYb 733) (rIns 733)) = true := by decide +kernel
theorem rK734 : (List.range (rYs 734)).all (re_ckI (rYb 734) (rIns 734)) = true := by decide +kernel
theorem rK735 : (List.range (rYs 735)).all (re_ckI (rYb 735) (rIns 735)) = true := by decide +kernel
theorem rK736 : (List.range (rYs 736)).all (re_ckI (rYb 736) (rIns 736)) = true := by decide +kernel
theorem rK737 : (List.range (rYs 737)).all (re_ckI (rYb 737) (rIns 737)) = true := by decide +kernel
theorem rK738 : (List.range (rYs 738)).all (re_ckI (rYb 738) (rIns 738)) = true := by decide +kernel
theorem rK739 : (List.range (rYs 739)).all (re_ckI (rYb 739) (rIns 739)) = true := by decide +kernel
theorem rK740 : (List.range (rYs 740)).all (re_ckI (rYb 740) (rIns 740)) = true := by decide +kernel
theorem rK741 : (List.range (rYs 741)).all (re_ckI (rYb 741) (rIns 741)) = true := by decide +kernel
theorem rK742 : (List.range (rYs 742)).all (re_ckI (rYb 742) (rIns 742)) = true := by decide +kernel
theorem rK743 : (List.range (rYs 743)).all (re_ckI (rYb 743) (rIns 743)) = true := by decide +kernel
theorem rK744 : (List.range (rYs 744)).all (re_ckI (rYb 744) (rIns 744)) = true := by decide +kernel
theorem rK745 : (List.range (rYs 745)).all (re_ckI (rYb 745) (rIns 745)) = true := by decide +kernel
def rIdl5 : List Nat := [728, 729, 730, 731, 732, 733, 734, 735, 736, 737, 738, 739, 740, 741, 742, 743, 744, 745]
theorem rKl5 : ∀ y ∈ rIdl5, (List.range (rYs y)).all (re_ckI (rYb y) (rIns y)) = true := List.forall_mem_cons.mpr ⟨rK728, List.forall_mem_cons.mpr ⟨rK729, List.forall_mem_cons.mpr ⟨rK730, List.forall_mem_cons.mpr ⟨rK731, List.forall_mem_cons.mpr ⟨rK732, List.forall_mem_cons.mpr ⟨rK733, List.forall_mem_cons.mpr ⟨rK734, List.forall_mem_cons.mpr ⟨rK735, List.forall_mem_cons.mpr ⟨rK736, List.forall_mem_cons.mpr ⟨rK737, List.forall_mem_cons.mpr ⟨rK738, List.forall_mem_cons.mpr ⟨rK739, List.forall_mem_cons.mpr ⟨rK740, List.forall_mem_cons.mpr ⟨rK741, List.forall_mem_cons.mpr ⟨rK742, List.forall_mem_cons.mpr ⟨rK743, List.forall_mem_cons.mpr ⟨rK744, List.forall_mem_cons.mpr ⟨rK745, fun _ h => absurd h List.not_mem_nil⟩⟩⟩⟩⟩⟩⟩⟩⟩⟩⟩⟩⟩⟩⟩⟩⟩⟩
