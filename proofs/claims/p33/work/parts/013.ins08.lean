theorem rK587_0 : (List.range 50).all (fun k => re_ckI (rYb 587) (rIns 587) (k + 50 * 0)) = true := by decide +kernel
theorem rK587_1 : (List.range 50).all (fun k => re_ckI (rYb 587) (rIns 587) (k + 50 * 1)) = true := by decide +kernel
theorem rK587_2 : (List.range 50).all (fun k => re_ckI (rYb 587) (rIns 587) (k + 50 * 2)) = true := by decide +kernel
theorem rK587_3 : (List.range 50).all (fun k => re_ckI (rYb 587) (rIns 587) (k + 50 * 3)) = true := by decide +kernel
theorem rK587_4 : (List.range 50).all (fun k => re_ckI (rYb 587) (rIns 587) (k + 50 * 4)) = true := by decide +kernel
theorem rK587_5 : (List.range 50).all (fun k => re_ckI (rYb 587) (rIns 587) (k + 50 * 5)) = true := by decide +kernel
theorem rK587_6 : (List.range 50).all (fun k => re_ckI (rYb 587) (rIns 587) (k + 50 * 6)) = true := by decide +kernel
theorem rK587_7 : (List.range 50).all (fun k => re_ckI (rYb 587) (rIns 587) (k + 50 * 7)) = true := by decide +kernel
theorem rK587_8 : (List.range 50).all (fun k => re_ckI (rYb 587) (rIns 587) (k + 50 * 8)) = true := by decide +kernel
theorem rK587 : (List.range (rYs 587)).all (re_ckI (rYb 587) (rIns 587)) = true := re_big (m := 9) (by decide +kernel) (fun i hi => match i, hi with
  | 0, _ => rK587_0
  | 1, _ => rK587_1
  | 2, _ => rK587_2
  | 3, _ => rK587_3
  | 4, _ => rK587_4
  | 5, _ => rK587_5
  | 6, _ => rK587_6
  | 7, _ => rK587_7
  | 8, _ => rK587_8
  | i + 9, h => absurd h (by omega))
theorem rK588_0 : (List.range 50).all (fun k => re_ckI (rYb 588) (rIns 588) (k + 50 * 0)) = true := by decide +kernel
theorem rK588_1 : (List.range 50).all (fun k => re_ckI (rYb 588) (rIns 588) (k + 50 * 1)) = true := by decide +kernel
theorem rK588_2 : (List.range 50).all (fun k => re_ckI (rYb 588) (rIns 588) (k + 50 * 2)) = true := by decide +kernel
theorem rK588_3 : (List.range 50).all (fun k => re_ckI (rYb 588) (rIns 588) (k + 50 * 3)) = true := by decide +kernel
theorem rK588_4 : (List.range 50).all (fun k => re_ckI (rYb 588) (rIns 588) (k + 50 * 4)) = true := by decide +kernel
theorem rK588_5 : (List.range 50).all (fun k => re_ckI (rYb 588) (rIns 588) (k + 50 * 5)) = true := by decide +kernel
theorem rK588_6 : (List.range 50).all (fun k => re_ckI (rYb 588) (rIns 588) (k + 50 * 6)) = true := by decide +kernel
theorem rK588 : (List.range (rYs 588)).all (re_ckI (rYb 588) (rIns 588)) = true := re_big (m := 7) (by decide +kernel) (fun i hi => match i, hi with
  | 0, _ => rK588_0
  | 1, _ => rK588_1
  | 2, _ => rK588_2
  | 3, _ => rK588_3
  | 4, _ => rK588_4
  | 5, _ => rK588_5
  | 6, _ => rK588_6
  | i + 7, h => absurd h (by omega))
def rIdl8 : List Nat := [587, 588]
theorem rKl8 : ∀ y ∈ rIdl8, (List.range (rYs y)).all (re_ckI (rYb y) (rIns y)) = true := List.forall_mem_cons.mpr ⟨rK587, List.forall_mem_cons.mpr ⟨rK588, fun _ h => absurd h List.not_mem_nil⟩⟩
