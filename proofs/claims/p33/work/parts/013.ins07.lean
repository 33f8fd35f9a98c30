theorem rK583 : (List.range (rYs 583)).all (re_ckI (rYb 583) (rIns 583)) = true := by decide +kernel
theorem rK584 : (List.range (rYs 584)).all (re_ckI (rYb 584) (rIns 584)) = true := by decide +kernel
theorem rK585_0 : (List.range 50).all (fun k => re_ckI (rYb 585) (rIns 585) (k + 50 * 0)) = true := by decide +kernel
theorem rK585_1 : (List.range 50).all (fun k => re_ckI (rYb 585) (rIns 585) (k + 50 * 1)) = true := by decide +kernel
theorem rK585_2 : (List.range 50).all (fun k => re_ckI (rYb 585) (rIns 585) (k + 50 * 2)) = true := by decide +kernel
theorem rK585_3 : (List.range 50).all (fun k => re_ckI (rYb 585) (rIns 585) (k + 50 * 3)) = true := by decide +kernel
theorem rK585_4 : (List.range 50).all (fun k => re_ckI (rYb 585) (rIns 585) (k + 50 * 4)) = true := by decide +kernel
theorem rK585_5 : (List.range 50).all (fun k => re_ckI (rYb 585) (rIns 585) (k + 50 * 5)) = true := by decide +kernel
theorem rK585_6 : (List.range 50).all (fun k => re_ckI (rYb 585) (rIns 585) (k + 50 * 6)) = true := by decide +kernel
theorem rK585_7 : (List.range 50).all (fun k => re_ckI (rYb 585) (rIns 585) (k + 50 * 7)) = true := by decide +kernel
theorem rK585_8 : (List.range 50).all (fun k => re_ckI (rYb 585) (rIns 585) (k + 50 * 8)) = true := by decide +kernel
theorem rK585_9 : (List.range 50).all (fun k => re_ckI (rYb 585) (rIns 585) (k + 50 * 9)) = true := by decide +kernel
theorem rK585_10 : (List.range 50).all (fun k => re_ckI (rYb 585) (rIns 585) (k + 50 * 10)) = true := by decide +kernel
theorem rK585 : (List.range (rYs 585)).all (re_ckI (rYb 585) (rIns 585)) = true := re_big (m := 11) (by decide +kernel) (fun i hi => match i, hi with
  | 0, _ => rK585_0
  | 1, _ => rK585_1
  | 2, _ => rK585_2
  | 3, _ => rK585_3
  | 4, _ => rK585_4
  | 5, _ => rK585_5
  | 6, _ => rK585_6
  | 7, _ => rK585_7
  | 8, _ => rK585_8
  | 9, _ => rK585_9
  | 10, _ => rK585_10
  | i + 11, h => absurd h (by omega))
theorem rK586_0 : (List.range 50).all (fun k => re_ckI (rYb 586) (rIns 586) (k + 50 * 0)) = true := by decide +kernel
theorem rK586_1 : (List.range 50).all (fun k => re_ckI (rYb 586) (rIns 586) (k + 50 * 1)) = true := by decide +kernel
theorem rK586_2 : (List.range 50).all (fun k => re_ckI (rYb 586) (rIns 586) (k + 50 * 2)) = true := by decide +kernel
theorem rK586_3 : (List.range 50).all (fun k => re_ckI (rYb 586) (rIns 586) (k + 50 * 3)) = true := by decide +kernel
theorem rK586_4 : (List.range 50).all (fun k => re_ckI (rYb 586) (rIns 586) (k + 50 * 4)) = true := by decide +kernel
theorem rK586_5 : (List.range 50).all (fun k => re_ckI (rYb 586) (rIns 586) (k + 50 * 5)) = true := by decide +kernel
theorem rK586_6 : (List.range 50).all (fun k => re_ckI (rYb 586) (rIns 586) (k + 50 * 6)) = true := by decide +kernel
theorem rK586_7 : (List.range 50).all (fun k => re_ckI (rYb 586) (rIns 586) (k + 50 * 7)) = true := by decide +kernel
theorem rK586_8 : (List.range 50).all (fun k => re_ckI (rYb 586) (rIns 586) (k + 50 * 8)) = true := by decide +kernel
theorem rK586_9 : (List.range 50).all (fun k => re_ckI (rYb 586) (rIns 586) (k + 50 * 9)) = true := by decide +kernel
theorem rK586_10 : (List.range 50).all (fun k => re_ckI (rYb 586) (rIns 586) (k + 50 * 10)) = true := by decide +kernel
theorem rK586_11 : (List.range 50).all (fun k => re_ckI (rYb 586) (rIns 586) (k + 50 * 11)) = true := by decide +kernel
theorem rK586 : (List.range (rYs 586)).all (re_ckI (rYb 586) (rIns 586)) = true := re_big (m := 12) (by decide +kernel) (fun i hi => match i, hi with
  | 0, _ => rK586_0
  | 1, _ => rK586_1
  | 2, _ => rK586_2
  | 3, _ => rK586_3
  | 4, _ => rK586_4
  | 5, _ => rK586_5
  | 6, _ => rK586_6
  | 7, _ => rK586_7
  | 8, _ => rK586_8
  | 9, _ => rK586_9
  | 10, _ => rK586_10
  | 11, _ => rK586_11
  | i + 12, h => absurd h (by omega))
def rIdl7 : List Nat := [583, 584, 585, 586]
theorem rKl7 : ∀ y ∈ rIdl7, (List.range (rYs y)).all (re_ckI (rYb y) (rIns y)) = true := List.forall_mem_cons.mpr ⟨rK583, List.forall_mem_cons.mpr ⟨rK584, List.forall_mem_cons.mpr ⟨rK585, List.forall_mem_cons.mpr ⟨rK586, fun _ h => absurd h List.not_mem_nil⟩⟩⟩⟩
