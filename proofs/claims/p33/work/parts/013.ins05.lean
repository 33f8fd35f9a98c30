theorem rK460 : (List.range (rYs 460)).all (re_ckI (rYb 460) (rIns 460)) = true := by decide +kernel
theorem rK461 : (List.range (rYs 461)).all (re_ckI (rYb 461) (rIns 461)) = true := by decide +kernel
theorem rK462 : (List.range (rYs 462)).all (re_ckI (rYb 462) (rIns 462)) = true := by decide +kernel
theorem rK463 : (List.range (rYs 463)).all (re_ckI (rYb 463) (rIns 463)) = true := by decide +kernel
theorem rK464 : (List.range (rYs 464)).all (re_ckI (rYb 464) (rIns 464)) = true := by decide +kernel
theorem rK512 : (List.range (rYs 512)).all (re_ckI (rYb 512) (rIns 512)) = true := by decide +kernel
theorem rK513 : (List.range (rYs 513)).all (re_ckI (rYb 513) (rIns 513)) = true := by decide +kernel
theorem rK514 : (List.range (rYs 514)).all (re_ckI (rYb 514) (rIns 514)) = true := by decide +kernel
theorem rK515 : (List.range (rYs 515)).all (re_ckI (rYb 515) (rIns 515)) = true := by decide +kernel
theorem rK516 : (List.range (rYs 516)).all (re_ckI (rYb 516) (rIns 516)) = true := by decide +kernel
theorem rK517 : (List.range (rYs 517)).all (re_ckI (rYb 517) (rIns 517)) = true := by decide +kernel
theorem rK518 : (List.range (rYs 518)).all (re_ckI (rYb 518) (rIns 518)) = true := by decide +kernel
theorem rK519 : (List.range (rYs 519)).all (re_ckI (rYb 519) (rIns 519)) = true := by decide +kernel
theorem rK520 : (List.range (rYs 520)).all (re_ckI (rYb 520) (rIns 520)) = true := by decide +kernel
theorem rK521 : (List.range (rYs 521)).all (re_ckI (rYb 521) (rIns 521)) = true := by decide +kernel
def rIdl5 : List Nat := [460, 461, 462, 463, 464, 512, 513, 514, 515, 516, 517, 518, 519, 520, 521]
theorem rKl5 : ∀ y ∈ rIdl5, (List.range (rYs y)).all (re_ckI (rYb y) (rIns y)) = true := List.forall_mem_cons.mpr ⟨rK460, List.forall_mem_cons.mpr ⟨rK461, List.forall_mem_cons.mpr ⟨rK462, List.forall_mem_cons.mpr ⟨rK463, List.forall_mem_cons.mpr ⟨rK464, List.forall_mem_cons.mpr ⟨rK512, List.forall_mem_cons.mpr ⟨rK513, List.forall_mem_cons.mpr ⟨rK514, List.forall_mem_cons.mpr ⟨rK515, List.forall_mem_cons.mpr ⟨rK516, List.forall_mem_cons.mpr ⟨rK517, List.forall_mem_cons.mpr ⟨rK518, List.forall_mem_cons.mpr ⟨rK519, List.forall_mem_cons.mpr ⟨rK520, List.forall_mem_cons.mpr ⟨rK521, fun _ h => absurd h List.not_mem_nil⟩⟩⟩⟩⟩⟩⟩⟩⟩⟩⟩⟩⟩⟩⟩
