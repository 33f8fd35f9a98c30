theorem rK196 : (List.range (rYs 196)).all (re_ckI (rYb 196) (rIns 196)) = true := by decide +kernel
theorem rK197 : (List.range (rYs 197)).all (re_ckI (rYb 197) (rIns 197)) = true := by decide +kernel
theorem rK256 : (List.range (rYs 256)).all (re_ckI (rYb 256) (rIns 256)) = true := by decide +kernel
theorem rK320 : (List.range (rYs 320)).all (re_ckI (rYb 320) (rIns 320)) = true := by decide +kernel
theorem rK321 : (List.range (rYs 321)).all (re_ckI (rYb 321) (rIns 321)) = true := by decide +kernel
theorem rK322 : (List.range (rYs 322)).all (re_ckI (rYb 322) (rIns 322)) = true := by decide +kernel
theorem rK323 : (List.range (rYs 323)).all (re_ckI (rYb 323) (rIns 323)) = true := by decide +kernel
theorem rK324 : (List.range (rYs 324)).all (re_ckI (rYb 324) (rIns 324)) = true := by decide +kernel
theorem rK325 : (List.range (rYs 325)).all (re_ckI (rYb 325) (rIns 325)) = true := by decide +kernel
theorem rK326 : (List.range (rYs 326)).all (re_ckI (rYb 326) (rIns 326)) = true := by decide +kernel
theorem rK327 : (List.range (rYs 327)).all (re_ckI (rYb 327) (rIns 327)) = true := by decide +kernel
theorem rK328 : (List.range (rYs 328)).all (re_ckI (rYb 328) (rIns 328)) = true := by decide +kernel
theorem rK329 : (List.range (rYs 329)).all (re_ckI (rYb 329) (rIns 329)) = true := by decide +kernel
theorem rK330 : (List.range (rYs 330)).all (re_ckI (rYb 330) (rIns 330)) = true := by decide +kernel
theorem rK331 : (List.range (rYs 331)).all (re_ckI (rYb 331) (rIns 331)) = true := by decide +kernel
theorem rK332 : (List.range (rYs 332)).all (re_ckI (rYb 332) (rIns 332)) = true := by decide +kernel
theorem rK384 : (List.range (rYs 384)).all (re_ckI (rYb 384) (rIns 384)) = true := by decide +kernel
theorem rK385 : (List.range (rYs 385)).all (re_ckI (rYb 385) (rIns 385)) = true := by decide +kernel
theorem rK386 : (List.range (rYs 386)).all (re_ckI (rYb 386) (rIns 386)) = true := by decide +kernel
theorem rK387 : (List.range (rYs 387)).all (re_ckI (rYb 387) (rIns 387)) = true := by decide +kernel
def rIdl3 : List Nat := [196, 197, 256, 320, 321, 322, 323, 324, 325, 326, 327, 328, 329, 330, 331, 332, 384, 385, 386, 387]
theorem rKl3 : ∀ y ∈ rIdl3, (List.range (rYs y)).all (re_ckI (rYb y) (rIns y)) = true := List.forall_mem_cons.mpr ⟨rK196, List.forall_mem_cons.mpr ⟨rK197, List.forall_mem_cons.mpr ⟨rK256, List.forall_mem_cons.mpr ⟨rK320, List.forall_mem_cons.mpr ⟨rK321, List.forall_mem_cons.mpr ⟨rK322, List.forall_mem_cons.mpr ⟨rK323, List.forall_mem_cons.mpr ⟨rK324, List.forall_mem_cons.mpr ⟨rK325, List.forall_mem_cons.mpr ⟨rK326, List.forall_mem_cons.mpr ⟨rK327, List.forall_mem_cons.mpr ⟨rK328, List.forall_mem_cons.mpr ⟨rK329, List.forall_mem_cons.mpr ⟨rK330, List.forall_mem_cons.mpr ⟨rK331, List.forall_mem_cons.mpr ⟨rK332, List.forall_mem_cons.mpr ⟨rK384, List.forall_mem_cons.mpr ⟨rK385, List.forall_mem_cons.mpr ⟨rK386, List.forall_mem_cons.mpr ⟨rK387, fun _ h => absurd h List.not_mem_nil⟩⟩⟩⟩⟩⟩⟩⟩⟩⟩⟩⟩⟩⟩⟩⟩⟩⟩⟩⟩
