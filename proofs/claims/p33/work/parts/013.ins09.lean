theorem rK640_0 : (List.range 50).all (fun k => re_ckI (rYb 640) (rIns 640) (k + 50 * 0)) = true := by decide +kernel
theorem rK640_1 : (List.range 50).all (fun k => re_ckI (rYb 640) (rIns 640) (k + 50 * 1)) = true := by decide +kernel
theorem rK640_2 : (List.range 50).all (fun k => re_ckI (rYb 640) (rIns 640) (k + 50 * 2)) = true := by decide +kernel
theorem rK640_3 : (List.range 50).all (fun k => re_ckI (rYb 640) (rIns 640) (k + 50 * 3)) = true := by decide +kernel
theorem rK640_4 : (List.range 50).all (fun k => re_ckI (rYb 640) (rIns 640) (k + 50 * 4)) = true := by decide +kernel
theorem rK640_5 : (List.range 50).all (fun k => re_ckI (rYb 640) (rIns 640) (k + 50 * 5)) = true := by decide +kernel
theorem rK640_6 : (List.range 50).all (fun k => re_ckI (rYb 640) (rIns 640) (k + 50 * 6)) = true := by decide +kernel
theorem rK640_7 : (List.range 50).all (fun k => re_ckI (rYb 640) (rIns 640) (k + 50 * 7)) = true := by decide +kernel
theorem rK640 : (List.range (rYs 640)).all (re_ckI (rYb 640) (rIns 640)) = true := re_big (m := 8) (by decide +kernel) (fun i hi => match i, hi with
  | 0, _ => rK640_0
  | 1, _ => rK640_1
  | 2, _ => rK640_2
  | 3, _ => rK640_3
  | 4, _ => rK640_4
  | 5, _ => rK640_5
  | 6, _ => rK640_6
  | 7, _ => rK640_7
  | i + 8, h => absurd h (by omega))
theorem rK641 : (List.range (rYs 641)).all (re_ckI (rYb 641) (rIns 641)) = true := by decide +kernel
theorem rK642 : (List.range (rYs 642)).all (re_ckI (rYb 642) (rIns 642)) = true := by decide +kernel
theorem rK643 : (List.range (rYs 643)).all (re_ckI (rYb 643) (rIns 643)) = true := by decide +kernel
theorem rK644 : (List.range (rYs 644)).all (re_ckI (rYb 644) (rIns 644)) = true := by decide +kernel
theorem rK704 : (List.range (rYs 704)).all (re_ckI (rYb 704) (rIns 704)) = true := by decide +kernel
theorem rK768 : (List.range (rYs 768)).all (re_ckI (rYb 768) (rIns 768)) = true := by decide +kernel
def rIdl9 : List Nat := [640, 641, 642, 643, 644, 704, 768]
theorem rKl9 : ∀ y ∈ rIdl9, (List.range (rYs y)).all (re_ckI (rYb y) (rIns y)) = true := List.forall_mem_cons.mpr ⟨rK640, List.forall_mem_cons.mpr ⟨rK641, List.forall_mem_cons.mpr ⟨rK642, List.forall_mem_cons.mpr ⟨rK643, List.forall_mem_cons.mpr ⟨rK644, List.forall_mem_cons.mpr ⟨rK704, List.forall_mem_cons.mpr ⟨rK768, fun _ h => absurd h List.not_mem_nil⟩⟩⟩⟩⟩⟩⟩
