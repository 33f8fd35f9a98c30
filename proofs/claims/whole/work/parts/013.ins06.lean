theorem rK746 : (List.range (rYs 746)).all (re_ckI (rYb 746) (rIns 746)) = true := by decide +kernel
theorem rK747 : (List.range (rYs 747)).all (re_ckI (rYb 747) (rIns 747)) = true := by decide +kernel
theorem rK748 : (List.range (rYs 748)).all (re_ckI (rYb 748) (rIns 748)) = true := by decide +kernel
theorem rK749 : (List.range (rYs 749)).all (re_ckI (rYb 749) (rIns 749)) = true := by decide +kernel
theorem rK750 : (List.range (rYs 750)).all (re_ckI (rYb 750) (rIns 750)) = true := by decide +kernel
theorem rK751 : (List.range (rYs 751)).all (re_ckI (rYb 751) (rIns 751)) = true := by decide +kernel
theorem rK752 : (List.range (rYs 752)).all (re_ckI (rYb 752) (rIns 752)) = true := by decide +kernel
theorem rK753 : (List.range (rYs 753)).all (re_ckI (rYb 753) (rIns 753)) = true := by decide +kernel
theorem rK754 : (List.range (rYs 754)).all (re_ckI (rYb 754) (rIns 754)) = true := by decide +kernel
theorem rK768 : (List.range (rYs 768)).all (re_ckI (rYb 768) (rIns 768)) = true := by decide +kernel
theorem rK769 : (List.range (rYs 769)).all (re_ckI (rYb 769) (rIns 769)) = true := by decide +kernel
theorem rK770 : (List.range (rYs 770)).all (re_ckI (rYb 770) (rIns 770)) = true := by decide +kernel
theorem rK771 : (List.range (rYs 771)).all (re_ckI (rYb 771) (rIns 771)) = true := by decide +kernel
theorem rK772 : (List.range (rYs 772)).all (re_ckI (rYb 772) (rIns 772)) = true := by decide +kernel
theorem rK773 : (List.range (rYs 773)).all (re_ckI (rYb 773) (rIns 773)) = true := by decide +kernel
theorem rK774 : (List.range (rYs 774)).all (re_ckI (rYb 774) (rIns 774)) = true := by decide +kernel
theorem rK775 : (List.range (rYs 775)).all (re_ckI (rYb 775) (rIns 775)) = true := by decide +kernel
theorem rK776 : (List.range (rYs 776)).all (re_ckI (rYb 776) (rIns 776)) = true := by decide +kernel
theorem rK777 : (List.range (rYs 777)).all (re_ckI (rYb 777) (rIns 777)) = true := by decide +kernel
theorem rK778 : (List.range (rYs 778)).all (re_ckI (rYb 778) (rIns 778)) = true := by decide +kernel
def rIdl6 : List Nat := [746, 747, 748, 749, 750, 751, 752, 753, 754, 768, 769, 770, 771, 772, 773, 774, 775, 776, 777, 778]
theorem rKl6 : ∀ y ∈ rIdl6, (List.range (rYs y)).all (re_ckI (rYb y) (rIns y)) = true := List.forall_mem_cons.mpr ⟨rK746, List.forall_mem_cons.mpr ⟨rK747, List.forall_mem_cons.mpr ⟨rK748, List.forall_mem_cons.mpr ⟨rK749, List.forall_mem_cons.mpr ⟨rK750, List.forall_mem_cons.mpr ⟨rK751, List.forall_mem_cons.mpr ⟨rK752, List.forall_mem_cons.mpr ⟨rK753, List.forall_mem_cons.mpr ⟨rK754, List.forall_mem_cons.mpr ⟨rK768, List.forall_mem_cons.mpr ⟨rK769, List.forall_mem_cons.mpr ⟨rK770, List.forall_mem_cons.mpr ⟨rK771, List.forall_mem_cons.mpr ⟨rK772, List.forall_mem_cons.mpr ⟨rK773, List.forall_mem_cons.mpr ⟨rK774, List.forall_mem_cons.mpr ⟨rK775, List.forall_mem_cons.mpr ⟨rK776, List.forall_mem_cons.mpr ⟨rK777, List.forall_mem_cons.mpr ⟨rK778, fun _ h => absurd h List.not_mem_nil⟩⟩⟩⟩⟩⟩⟩⟩⟩⟩⟩⟩⟩⟩⟩⟩⟩⟩⟩⟩
