theorem rK388 : (List.range (rYs 388)).all (re_ckI (rYb 388) (rIns 388)) = true := by decide +kernel
theorem rK448 : (List.range (rYs 448)).all (re_ckI (rYb 448) (rIns 448)) = true := by decide +kernel
theorem rK449 : (List.range (rYs 449)).all (re_ckI (rYb 449) (rIns 449)) = true := by decide +kernel
theorem rK450 : (List.range (rYs 450)).all (re_ckI (rYb 450) (rIns 450)) = true := by decide +kernel
theorem rK451 : (List.range (rYs 451)).all (re_ckI (rYb 451) (rIns 451)) = true := by decide +kernel
theorem rK452 : (List.range (rYs 452)).all (re_ckI (rYb 452) (rIns 452)) = true := by decide +kernel
theorem rK453 : (List.range (rYs 453)).all (re_ckI (rYb 453) (rIns 453)) = true := by decide +kernel
theorem rK454 : (List.range (rYs 454)).all (re_ckI (rYb 454) (rIns 454)) = true := by decide +kernel
theorem rK455 : (List.range (rYs 455)).all (re_ckI (rYb 455) (rIns 455)) = true := by decide +kernel
theorem rK456 : (List.range (rYs 456)).all (re_ckI (rYb 456) (rIns 456)) = true := by decide +kernel
theorem rK457 : (List.range (rYs 457)).all (re_ckI (rYb 457) (rIns 457)) = true := by decide +kernel
theorem rK458 : (List.range (rYs 458)).all (re_ckI (rYb 458) (rIns 458)) = true := by decide +kernel
theorem rK459 : (List.range (rYs 459)).all (re_ckI (rYb 459) (rIns 459)) = true := by decide +kernel
def rIdl4 : List Nat := [388, 448, 449, 450, 451, 452, 453, 454, 455, 456, 457, 458, 459]
theorem rKl4 : ∀ y ∈ rIdl4, (List.range (rYs y)).all (re_ckI (rYb y) (rIns y)) = true := List.forall_mem_cons.mpr ⟨rK388, List.forall_mem_cons.mpr ⟨rK448, List.forall_mem_cons.mpr ⟨rK449, List.forall_mem_cons.mpr ⟨rK450, List.forall_mem_cons.mpr ⟨rK451, List.forall_mem_cons.mpr ⟨rK452, List.forall_mem_cons.mpr ⟨rK453, List.forall_mem_cons.mpr ⟨rK454, List.forall_mem_cons.mpr ⟨rK455, List.forall_mem_cons.mpr ⟨rK456, List.forall_mem_cons.mpr ⟨rK457, List.forall_mem_cons.mpr ⟨rK458, List.forall_mem_cons.mpr ⟨rK459, fun _ h => absurd h List.not_mem_nil⟩⟩⟩⟩⟩⟩⟩⟩⟩⟩⟩⟩⟩
