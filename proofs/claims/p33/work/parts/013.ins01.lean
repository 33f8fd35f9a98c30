theorem rK22 : (List.range (rYs 22)).all (re_ckI (rYb 22) (rIns 22)) = true := by decide +kernel
theorem rK23 : (List.range (rYs 23)).all (re_ckI (rYb 23) (rIns 23)) = true := by decide +kernel
theorem rK24 : (List.range (rYs 24)).all (re_ckI (rYb 24) (rIns 24)) = true := by decide +kernel
theorem rK25 : (List.range (rYs 25)).all (re_ckI (rYb 25) (rIns 25)) = true := by decide +kernel
theorem rK26 : (List.range (rYs 26)).all (re_ckI (rYb 26) (rIns 26)) = true := by decide +kernel
theorem rK27 : (List.range (rYs 27)).all (re_ckI (rYb 27) (rIns 27)) = true := by decide +kernel
theorem rK28 : (List.range (rYs 28)).all (re_ckI (rYb 28) (rIns 28)) = true := by decide +kernel
theorem rK29 : (List.range (rYs 29)).all (re_ckI (rYb 29) (rIns 29)) = true := by decide +kernel
theorem rK30 : (List.range (rYs 30)).all (re_ckI (rYb 30) (rIns 30)) = true := by decide +kernel
theorem rK31 : (List.range (rYs 31)).all (re_ckI (rYb 31) (rIns 31)) = true := by decide +kernel
theorem rK32 : (List.range (rYs 32)).all (re_ckI (rYb 32) (rIns 32)) = true := by decide +kernel
theorem rK33 : (List.range (rYs 33)).all (re_ckI (rYb 33) (rIns 33)) = true := by decide +kernel
theorem rK34 : (List.range (rYs 34)).all (re_ckI (rYb 34) (rIns 34)) = true := by decide +kernel
theorem rK35 : (List.range (rYs 35)).all (re_ckI (rYb 35) (rIns 35)) = true := by decide +kernel
theorem rK36 : (List.range (rYs 36)).all (re_ckI (rYb 36) (rIns 36)) = true := by decide +kernel
theorem rK37 : (List.range (rYs 37)).all (re_ckI (rYb 37) (rIns 37)) = true := by decide +kernel
theorem rK38 : (List.range (rYs 38)).all (re_ckI (rYb 38) (rIns 38)) = true := by decide +kernel
theorem rK39 : (List.range (rYs 39)).all (re_ckI (rYb 39) (rIns 39)) = true := by decide +kernel
theorem rK64 : (List.range (rYs 64)).all (re_ckI (rYb 64) (rIns 64)) = true := by decide +kernel
theorem rK65 : (List.range (rYs 65)).all (re_ckI (rYb 65) (rIns 65)) = true := by decide +kernel
theorem rK66 : (List.range (rYs 66)).all (re_ckI (rYb 66) (rIns 66)) = true := by decide +kernel
theorem rK67 : (List.range (rYs 67)).all (re_ckI (rYb 67) (rIns 67)) = true := by decide +kernel
theorem rK68 : (List.range (rYs 68)).all (re_ckI (rYb 68) (rIns 68)) = true := by decide +kernel
theorem rK69 : (List.range (rYs 69)).all (re_ckI (rYb 69) (rIns 69)) = true := by decide +kernel
theorem rK70 : (List.range (rYs 70)).all (re_ckI (rYb 70) (rIns 70)) = true := by decide +kernel
def rIdl1 : List Nat := [22, 23, 24, 25, 26, 27, 28, 29, 30, 31, 32, 33, 34, 35, 36, 37, 38, 39, 64, 65, 66, 67, 68, 69, 70]
theorem rKl1 : ∀ y ∈ rIdl1, (List.range (rYs y)).all (re_ckI (rYb y) (rIns y)) = true := List.forall_mem_cons.mpr ⟨rK22, List.forall_mem_cons.mpr ⟨rK23, List.forall_mem_cons.mpr ⟨rK24, List.forall_mem_cons.mpr ⟨rK25, List.forall_mem_cons.mpr ⟨rK26, List.forall_mem_cons.mpr ⟨rK27, List.forall_mem_cons.mpr ⟨rK28, List.forall_mem_cons.mpr ⟨rK29, List.forall_mem_cons.mpr ⟨rK30, List.forall_mem_cons.mpr ⟨rK31, List.forall_mem_cons.mpr ⟨rK32, List.forall_mem_cons.mpr ⟨rK33, List.forall_mem_cons.mpr ⟨rK34, List.forall_mem_cons.mpr ⟨rK35, List.forall_mem_cons.mpr ⟨rK36, List.forall_mem_cons.mpr ⟨rK37, List.forall_mem_cons.mpr ⟨rK38, List.forall_mem_cons.mpr ⟨rK39, List.forall_mem_cons.mpr ⟨rK64, List.forall_mem_cons.mpr ⟨rK65, List.forall_mem_cons.mpr ⟨rK66, List.forall_mem_cons.mpr ⟨rK67, List.forall_mem_cons.mpr ⟨rK68, List.forall_mem_cons.mpr ⟨rK69, List.forall_mem_cons.mpr ⟨rK70, fun _ h => absurd h List.not_mem_nil⟩⟩⟩⟩⟩⟩⟩⟩⟩⟩⟩⟩⟩⟩⟩⟩⟩⟩⟩⟩⟩⟩⟩⟩⟩
