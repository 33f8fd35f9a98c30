theorem rK770 : (List.range (rYs 770)).all (re_ckI (rYb 770) (rIns 770)) = true := by decide +kernel
theorem rK771 : (List.range (rYs 771)).all (re_ckI (rYb 771) (rIns 771)) = true := by decide +kernel
theorem rK772 : (List.range (rYs 772)).all (re_ckI (rYb 772) (rIns 772)) = true := by decide +kernel
theorem rK773 : (List.range (rYs 773)).all (re_ckI (rYb 773) (rIns 773)) = true := by decide +kernel
theorem rK774 : (List.range (rYs 774)).all (re_ckI (rYb 774) (rIns 774)) = true := by decide +kernel
theorem rK775 : (List.range (rYs 775)).all (re_ckI (rYb 775) (rIns 775)) = true := by decide +kernel
theorem rK776 : (List.range (rYs 776)).all (re_ckI (rYb 776) (rIns 776)) = true := by decide +kernel
theorem rK777 : (List.range (rYs 777)).all (re_ckI (rYb 777) (rIns 777)) = true := by decide +kernel
theorem rK778 : (List.range (rYs 778)).all (re_ckI (rYb 778) (rIns 778)) = true := by decide +kernel
theorem rK779 : (List.range (rYs 779)).all (re_ckI (rYb 779) (rIns 779)) = true := by decide +kernel
theorem rK780 : (List.range (rYs 780)).all (re_ckI (rYb 780) (rIns 780)) = true := by decide +kernel
theorem rK781 : (List.range (rYs 781)).all (re_ckI (rYb 781) (rIns 781)) = true := by decide +kernel
theorem rK782 : (List.range (rYs 782)).all (re_ckI (rYb 782) (rIns 782)) = true := by decide +kernel
theorem rK783 : (List.range (rYs 783)).all (re_ckI (rYb 783) (rIns 783)) = true := by decide +kernel
def rIdl8 : List Nat := [770, 771, 772, 773, 774, 775, 776, 777, 778, 779, 780, 781, 782, 783]
theorem rKl8 : ∀ y ∈ rIdl8, (List.range (rYs y)).all (re_ckI (rYb y) (rIns y)) = true := List.forall_mem_cons.mpr ⟨rK770, List.forall_mem_cons.mpr ⟨rK771, List.forall_mem_cons.mpr ⟨rK772, List.forall_mem_cons.mpr ⟨rK773, List.forall_mem_cons.mpr ⟨rK774, List.forall_mem_cons.mpr ⟨rK775, List.forall_mem_cons.mpr ⟨rK776, List.forall_mem_cons.mpr ⟨rK777, List.forall_mem_cons.mpr ⟨rK778, List.forall_mem_cons.mpr ⟨rK779, List.forall_mem_cons.mpr ⟨rK780, List.forall_mem_cons.mpr ⟨rK781, List.forall_mem_cons.mpr ⟨rK782, List.forall_mem_cons.mpr ⟨rK783, fun _ h => absurd h List.not_mem_nil⟩⟩⟩⟩⟩⟩⟩⟩⟩⟩⟩⟩⟩⟩
