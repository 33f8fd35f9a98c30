theorem rK0 : (List.range (rYs 0)).all (re_ckI (rYb 0) (rIns 0)) = true := by decide +kernel
theorem rK1 : (List.range (rYs 1)).all (re_ckI (rYb 1) (rIns 1)) = true := by decide +kernel
theorem rK2 : (List.range (rYs 2)).all (re_ckI (rYb 2) (rIns 2)) = true := by decide +kernel
theorem rK3 : (List.range (rYs 3)).all (re_ckI (rYb 3) (rIns 3)) = true := by decide +kernel
theorem rK4 : (List.range (rYs 4)).all (re_ckI (rYb 4) (rIns 4)) = true := by decide +kernel
theorem rK5 : (List.range (rYs 5)).all (re_ckI (rYb 5) (rIns 5)) = true := by decide +kernel
theorem rK6 : (List.range (rYs 6)).all (re_ckI (rYb 6) (rIns 6)) = true := by decide +kernel
theorem rK7 : (List.range (rYs 7)).all (re_ckI (rYb 7) (rIns 7)) = true := by decide +kernel
theorem rK8 : (List.range (rYs 8)).all (re_ckI (rYb 8) (rIns 8)) = true := by decide +kernel
theorem rK9 : (List.range (rYs 9)).all (re_ckI (rYb 9) (rIns 9)) = true := by decide +kernel
theorem rK10 : (List.range (rYs 10)).all (re_ckI (rYb 10) (rIns 10)) = true := by decide +kernel
theorem rK11 : (List.range (rYs 11)).all (re_ckI (rYb 11) (rIns 11)) = true := by decide +kernel
theorem rK12 : (List.range (rYs 12)).all (re_ckI (rYb 12) (rIns 12)) = true := by decide +kernel
theorem rK13 : (List.range (rYs 13)).all (re_ckI (rYb 13) (rIns 13)) = true := by decide +kernel
theorem rK14 : (List.range (rYs 14)).all (re_ckI (rYb 14) (rIns 14)) = true := by decide +kernel
theorem rK15 : (List.range (rYs 15)).all (re_ckI (rYb 15) (rIns 15)) = true := by decide +kernel
theorem rK16 : (List.range (rYs 16)).all (re_ckI (rYb 16) (rIns 16)) = true := by decide +kernel
theorem rK17 : (List.range (rYs 17)).all (re_ckI (rYb 17) (rIns 17)) = true := by decide +kernel
theorem rK18 : (List.range (rYs 18)).all (re_ckI (rYb 18) (rIns 18)) = true := by decide +kernel
theorem rK19 : (List.range (rYs 19)).all (re_ckI (rYb 19) (rIns 19)) = true := by decide +kernel
theorem rK20 : (List.range (rYs 20)).all (re_ckI (rYb 20) (rIns 20)) = true := by decide +kernel
theorem rK21 : (List.range (rYs 21)).all (re_ckI (rYb 21) (rIns 21)) = true := by decide +kernel
def rIdl0 : List Nat := [0, 1, 2, 3, 4, 5, 6, 7, 8, 9, 10, 11, 12, 13, 14, 15, 16, 17, 18, 19, 20, 21]
theorem rKl0 : ∀ y ∈ rIdl0, (List.range (rYs y)).all (re_ckI (rYb y) (rIns y)) = true := List.forall_mem_cons.mpr ⟨rK0, List.forall_mem_cons.mpr ⟨rK1, List.forall_mem_cons.mpr ⟨rK2, List.forall_mem_cons.mpr ⟨rK3, List.forall_mem_cons.mpr ⟨rK4, List.forall_mem_cons.mpr ⟨rK5, List.forall_mem_cons.mpr ⟨rK6, List.forall_mem_cons.mpr ⟨rK7, List.forall_mem_cons.mpr ⟨rK8, List.forall_mem_cons.mpr ⟨rK9, List.forall_mem_cons.mpr ⟨rK10, List.forall_mem_cons.mpr ⟨rK11, List.forall_mem_cons.mpr ⟨rK12, List.forall_mem_cons.mpr ⟨rK13, List.forall_mem_cons.mpr ⟨rK14, List.forall_mem_cons.mpr ⟨rK15, List.forall_mem_cons.mpr ⟨rK16, List.forall_mem_cons.mpr ⟨rK17, List.forall_mem_cons.mpr ⟨rK18, List.forall_mem_cons.mpr ⟨rK19, List.forall_mem_cons.mpr ⟨rK20, List.forall_mem_cons.mpr ⟨rK21, fun _ h => absurd h List.not_mem_nil⟩⟩⟩⟩⟩⟩⟩⟩⟩⟩⟩⟩⟩⟩⟩⟩⟩⟩⟩⟩⟩⟩
