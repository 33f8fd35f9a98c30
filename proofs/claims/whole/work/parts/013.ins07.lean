theorem rK779 : (List.range (rYs 779)).all (re_ckI (rYb 779) (rIns 779)) = true := by decide +kernel
theorem rK780 : (List.range (rYs 780)).all (re_ckI (rYb 780) (rIns 780)) = true := by decide +kernel
theorem rK781 : (List.range (rYs 781)).all (re_ckI (rYb 781) (rIns 781)) = true := by decide +kernel
theorem rK782 : (List.range (rYs 782)).all (re_ckI (rYb 782) (rIns 782)) = true := by decide +kernel
theorem rK783 : (List.range (rYs 783)).all (re_ckI (rYb 783) (rIns 783)) = true := by decide +kernel
theorem rK784 : (List.range (rYs 784)).all (re_ckI (rYb 784) (rIns 784)) = true := by decide +kernel
theorem rK785 : (List.range (rYs 785)).all (re_ckI (rYb 785) (rIns 785)) = true := by decide +kernel
theorem rK786 : (List.range (rYs 786)).all (re_ckI (rYb 786) (rIns 786)) = true := by decide +kernel
theorem rK787 : (List.range (rYs 787)).all (re_ckI (rYb 787) (rIns 787)) = true := by decide +kernel
theorem rK788 : (List.range (rYs 788)).all (re_ckI (rYb 788) (rIns 788)) = true := by decide +kernel
theorem rK789 : (List.range (rYs 789)).all (re_ckI (rYb 789) (rIns 789)) = true := by decide +kernel
theorem rK790 : (List.range (rYs 790)).all (re_ckI (rYb 790) (rIns 790)) = true := by decide +kernel
theorem rK832 : (List.range (rYs 832)).all (re_ckI (rYb 832) (rIns 832)) = true := by decide +kernel
theorem rK896 : (List.range (rYs 896)).all (re_ckI (rYb 896) (rIns 896)) = true := by decide +kernel
theorem rK960 : (List.range (rYs 960)).all (re_ckI (rYb 960) (rIns 960)) = true := by decide +kernel
theorem rK961 : (List.range (rYs 961)).all (re_ckI (rYb 961) (rIns 961)) = true := by decide +kernel
theorem rK962 : (List.range (rYs 962)).all (re_ckI (rYb 962) (rIns 962)) = true := by decide +kernel
theorem rK963 : (List.range (rYs 963)).all (re_ckI (rYb 963) (rIns 963)) = true := by decide +kernel
theorem rK964 : (List.range (rYs 964)).all (re_ckI (rYb 964) (rIns 964)) = true := by decide +kernel
theorem rK965 : (List.range (rYs 965)).all (re_ckI (rYb 965) (rIns 965)) = true := by decide +kernel
theorem rK1024 : (List.range (rYs 1024)).all (re_ckI (rYb 1024) (rIns 1024)) = true := by decide +kernel
theorem rK1088 : (List.range (rYs 1088)).all (re_ckI (rYb 1088) (rIns 1088)) = true := by decide +kernel
theorem rK1152 : (List.range (rYs 1152)).all (re_ckI (rYb 1152) (rIns 1152)) = true := by decide +kernel
theorem rK1153 : (List.range (rYs 1153)).all (re_ckI (rYb 1153) (rIns 1153)) = true := by decide +kernel
theorem rK1154 : (List.range (rYs 1154)).all (re_ckI (rYb 1154) (rIns 1154)) = true := by decide +kernel
theorem rK1155 : (List.range (rYs 1155)).all (re_ckI (rYb 1155) (rIns 1155)) = true := by decide +kernel
def rIdl7 : List Nat := [779, 780, 781, 782, 783, 784, 785, 786, 787, 788, 789, 790, 832, 896, 960, 961, 962, 963, 964, 965, 1024, 1088, 1152, 1153, 1154, 1155]
theorem rKl7 : ∀ y ∈ rIdl7, (List.range (rYs y)).all (re_ckI (rYb y) (rIns y)) = true := List.forall_mem_cons.mpr ⟨rK779, List.forall_mem_cons.mpr ⟨rK780, List.forall_mem_cons.mpr ⟨rK781, List.forall_mem_cons.mpr ⟨rK782, List.forall_mem_cons.mpr ⟨rK783, List.forall_mem_cons.mpr ⟨rK784, List.forall_mem_cons.mpr ⟨rK785, List.forall_mem_cons.mpr ⟨rK786, List.forall_mem_cons.mpr ⟨rK787, List.forall_mem_cons.mpr ⟨rK788, List.forall_mem_cons.mpr ⟨rK789, List.forall_mem_cons.mpr ⟨rK790, List.forall_mem_cons.mpr ⟨rK832, List.forall_mem_cons.mpr ⟨rK896, List.forall_mem_cons.mpr ⟨rK960, List.forall_mem_cons.mpr ⟨rK961, List.forall_mem_cons.mpr ⟨rK962, List.forall_mem_cons.mpr ⟨rK963, List.forall_mem_cons.mpr ⟨rK964, List.forall_mem_cons.mpr ⟨rK965, List.forall_mem_cons.mpr ⟨rK1024, List.forall_mem_cons.mpr ⟨rK1088, List.forall_mem_cons.mpr ⟨rK1152, List.forall_mem_cons.mpr ⟨rK1153, List.forall_mem_cons.mpr ⟨rK1154, List.forall_mem_cons.mpr ⟨rK1155, fun _ h => absurd h List.not_mem_nil⟩⟩⟩⟩⟩⟩⟩⟩⟩⟩⟩⟩⟩⟩⟩⟩⟩⟩⟩⟩⟩⟩⟩⟩⟩⟩
