theorem rK704 : (List.range (rYs 704)).all (re_ckI (rYb 704) (rIns 704)) = true := by decide +kernel
def rIdl5 : List Nat := [704]
theorem rKl5 : ∀ y ∈ rIdl5, (List.range (rYs y)).all (re_ckI (rYb y) (rIns y)) = true := List.forall_mem_cons.mpr ⟨rK704, fun _ h => absurd h List.not_mem_nil⟩
