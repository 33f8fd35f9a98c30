theorem rK522 : (List.range (rYs 522)).all (re_ckI (rYb 522) (rIns 522)) = true := by decide +kernel
theorem rK523 : (List.range (rYs 523)).all (re_ckI (rYb 523) (rIns 523)) = true := by decide +kernel
theorem rK576 : (List.range (rYs 576)).all (re_ckI (rYb 576) (rIns 576)) = true := by decide +kernel
theorem rK577 : (List.range (rYs 577)).all (re_ckI (rYb 577) (rIns 577)) = true := by decide +kernel
theorem rK578 : (List.range (rYs 578)).all (re_ckI (rYb 578) (rIns 578)) = true := by decide +kernel
theorem rK579 : (List.range (rYs 579)).all (re_ckI (rYb 579) (rIns 579)) = true := by decide +kernel
theorem rK580_0 : (List.range 50).all (fun k => re_ckI (rYb 580) (rIns 580) (k + 50 * 0)) = true := by decide +kernel
theorem rK580_1 : (List.range 50).all (fun k => re_ckI (rYb 580) (rIns 580) (k + 50 * 1)) = true := by decide +kernel
theorem rK580_2 : (List.range 50).all (fun k => re_ckI (rYb 580) (rIns 580) (k + 50 * 2)) = true := by decide +kernel
theorem rK580_3 : (List.range 50).all (fun k => re_ckI (rYb 580) (rIns 580) (k + 50 * 3)) = true := by decide +kernel
theorem rK580_4 : (List.range 50).all (fun k => re_ckI (rYb 580) (rIns 580) (k + 50 * 4)) = true := by decide +kernel
theorem rK580_5 : (List.range 50).all (fun k => re_ckI (rYb 580) (rIns 580) (k + 50 * 5)) = true := by decide +kernel
theorem rK580_6 : (List.range 50).all (fun k => re_ckI (rYb 580) (rIns 580) (k + 50 * 6)) = true := by decide +kernel
theorem rK580_7 : (List.range 50).all (fun k => re_ckI (rYb 580) (rIns 580) (k + 50 * 7)) = true := by decide +kernel
theorem rK580 : (List.range (rYs 580)).all (re_ckI (rYb 580) (rIns 580)) = true := re_big (m := 8) (by decide +kernel) (fun i hi => match i, hi with
  | 0, _ => rK580_0
  | 1, _ => rK580_1
  | 2, _ => rK580_2
  | 3, _ => rK580_3
  | 4, _ => rK580_4
  | 5, _ => rK580_5
  | 6, _ => rK580_6
  | 7, _ => rK580_7
  | i + 8, h => absurd h (by omega))
theorem rK581 : (List.range (rYs 581)).all (re_ckI (rYb 581) (rIns 581)) = true := by decide +kernel
theorem rK582_0 : (List.range 50).all (fun k => re_ckI (rYb 582) (rIns 582) (k + 50 * 0)) = true := by decide +kernel
theorem rK582_1 : (List.range 50).all (fun k => re_ckI (rYb 582) (rIns 582) (k + 50 * 1)) = true := by decide +kernel
theorem rK582_2 : (List.range 50).all (fun k => re_ckI (rYb 582) (rIns 582) (k + 50 * 2)) = true := by decide +kernel
theorem rK582_3 : (List.range 50).all (fun k => re_ckI (rYb 582) (rIns 582) (k + 50 * 3)) = true := by decide +kernel
theorem rK582_4 : (List.range 50).all (fun k => re_ckI (rYb 582) (rIns 582) (k + 50 * 4)) = true := by decide +kernel
theorem rK582_5 : (List.range 50).all (fun k => re_ckI (rYb 582) (rIns 582) (k + 50 * 5)) = true := by decide +kernel
theorem rK582_6 : (List.range 50).all (fun k => re_ckI (rYb 582) (rIns 582) (k + 50 * 6)) = true := by decide +kernel
theorem rK582 : (List.range (rYs 582)).all (re_ckI (rYb 582) (rIns 582)) = true := re_big (m := 7) (by decide +kernel) (fun i hi => match i, hi with
  | 0, _ => rK582_0
  | 1, _ => rK582_1
  | 2, _ => rK582_2
  | 3, _ => rK582_3
  | 4, _ => rK582_4
  | 5, _ => rK582_5
  | 6, _ => rK582_6
  | i + 7, h => absurd h (by omega))
def rIdl6 : List Nat := [522, 523, 576, 577, 578, 579, 580, 581, 582]
theorem rKl6 : ∀ y ∈ rIdl6, (List.range (rYs y)).all (re_ckI (rYb y) (rIns y)) = true := List.forall_mem_cons.mpr ⟨rK522, List.forall_mem_cons.mpr ⟨rK523, List.forall_mem_cons.mpr ⟨rK576, List.forall_mem_cons.mpr ⟨rK577, List.forall_mem_cons.mpr ⟨rK578, List.forall_mem_cons.mpr ⟨rK579, List.forall_mem_cons.mpr ⟨rK580, List.forall_mem_cons.mpr ⟨rK581, List.forall_mem_cons.mpr ⟨rK582, fun _ h => absurd h List.not_mem_nil⟩⟩⟩⟩⟩⟩⟩⟩⟩
