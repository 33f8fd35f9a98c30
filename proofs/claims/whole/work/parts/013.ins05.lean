theorem rK768 : (List.range (rYs 768)).all (re_ckI (rYb 768) (rIns 768)) = true := by decide +kernel
def rIdl5 : List Nat := [768]
theorem rKl5 : ∀ y ∈ rIdl5, (List.range (rYs y)).all (re_ckI (rYb y) (rIns y)) = true := List.forall_mem_cons.mpr ⟨rK768, fun _ h => absurd h List.not_mem_nil⟩
