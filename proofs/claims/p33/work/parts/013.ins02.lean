theorem rK71 : (List.range (rYs 71)).all (re_ckI (rYb 71) (rIns 71)) = true := by decide +kernel
theorem rK128 : (List.range (rYs 128)).all (re_ckI (rYb 128) (rIns 128)) = true := by decide +kernel
theorem rK129 : (List.range (rYs 129)).all (re_ckI (rYb 129) (rIns 129)) = true := by decide +kernel
theorem rK130 : (List.range (rYs 130)).all (re_ckI (rYb 130) (rIns 130)) = true := by decide +kernel
theorem rK131 : (List.range (rYs 131)).all (re_ckI (rYb 131) (rIns 131)) = true := by decide +kernel
theorem rK132 : (List.range (rYs 132)).all (re_ckI (rYb 132) (rIns 132)) = true := by decide +kernel
theorem rK133 : (List.range (rYs 133)).all (re_ckI (rYb 133) (rIns 133)) = true := by decide +kernel
theorem rK134 : (List.range (rYs 134)).all (re_ckI (rYb 134) (rIns 134)) = true := by decide +kernel
theorem rK135 : (List.range (rYs 135)).all (re_ckI (rYb 135) (rIns 135)) = true := by decide +kernel
theorem rK136 : (List.range (rYs 136)).all (re_ckI (rYb 136) (rIns 136)) = true := by decide +kernel
theorem rK137 : (List.range (rYs 137)).all (re_ckI (rYb 137) (rIns 137)) = true := by decide +kernel
theorem rK138 : (List.range (rYs 138)).all (re_ckI (rYb 138) (rIns 138)) = true := by decide +kernel
theorem rK139 : (List.range (rYs 139)).all (re_ckI (rYb 139) (rIns 139)) = true := by decide +kernel
theorem rK140 : (List.range (rYs 140)).all (re_ckI (rYb 140) (rIns 140)) = true := by decide +kernel
theorem rK192 : (List.range (rYs 192)).all (re_ckI (rYb 192) (rIns 192)) = true := by decide +kernel
theorem rK193 : (List.range (rYs 193)).all (re_ckI (rYb 193) (rIns 193)) = true := by decide +kernel
theorem rK194 : (List.range (rYs 194)).all (re_ckI (rYb 194) (rIns 194)) = true := by decide +kernel
theorem rK195 : (List.range (rYs 195)).all (re_ckI (rYb 195) (rIns 195)) = true := by decide +kernel
def rIdl2 : List Nat := [71, 128, 129, 130, 131, 132, 133, 134, 135, 136, 137, 138, 139, 140, 192, 193, 194, 195]
theorem rKl2 : ∀ y ∈ rIdl2, (List.range (rYs y)).all (re_ckI (rYb y) (rIns y)) = true := List.forall_mem_cons.mpr ⟨rK71, List.forall_mem_cons.mpr ⟨rK128, List.forall_mem_cons.mpr ⟨rK129, List.forall_mem_cons.mpr ⟨rK130, List.forall_mem_cons.mpr ⟨rK131, List.forall_mem_cons.mpr ⟨rK132, List.forall_mem_cons.mpr ⟨rK133, List.forall_mem_cons.mpr ⟨rK134, List.forall_mem_cons.mpr ⟨rK135, List.forall_mem_cons.mpr ⟨rK136, List.forall_mem_cons.mpr ⟨rK137, List.forall_mem_cons.mpr ⟨rK138, List.forall_mem_cons.mpr ⟨rK139, List.forall_mem_cons.mpr ⟨rK140, List.forall_mem_cons.mpr ⟨rK192, List.forall_mem_cons.mpr ⟨rK193, List.forall_mem_cons.mpr ⟨rK194, List.forall_mem_cons.mpr ⟨rK195, fun _ h => absurd h List.not_mem_nil⟩⟩⟩⟩⟩⟩⟩⟩⟩⟩⟩⟩⟩⟩⟩⟩⟩⟩
