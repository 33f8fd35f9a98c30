theorem rK457 : (List.range (rYs 457)).all (re_ckI (rYb 457) (rIns 457)) = true := by decide +kernel
theorem rK458 : (List.range (rYs 458)).all (re_ckI (rYb 458) (rIns 458)) = true := by decide +kernel
theorem rK459 : (List.range (rYs 459)).all (re_ckI (rYb 459) (rIns 459)) = true := by decide +kernel
theorem rK460 : (List.range (rYs 460)).all (re_ckI (rYb 460) (rIns 460)) = true := by decide +kernel
theorem rK461 : (List.range (rYs 461)).all (re_ckI (rYb 461) (rIns 461)) = true := by decide +kernel
theorem rK462 : (List.range (rYs 462)).all (re_ckI (rYb 462) (rIns 462)) = true := by decide +kernel
theorem rK463 : (List.range (rYs 463)).all (re_ckI (rYb 463) (rIns 463)) = true := by decide +kernel
theorem rK464 : (List.range (rYs 464)).all (re_ckI (rYb 464) (rIns 464)) = true := by decide +kernel
theorem rK512 : (List.range (rYs 512)).all (re_ckI (rYb 512) (rIns 512)) = true := by decide +kernel
theorem rK513 : (List.range (rYs 513)).all (re_ckI (rYb 513) (rIns 513)) = true := by decide +kernel
theorem rK514 : (List.range (rYs 514)).all (re_ckI (rYb 514) (rIns 514)) = true := by decide +kernel
theorem rK515 : (List.range (rYs 515)).all (re_ckI (rYb 515) (rIns 515)) = true := by decide +kernel
theorem rK516 : (List.range (rYs 516)).all (re_ckI (rYb 516) (rIns 516)) = true := by decide +kernel
theorem rK517 : (List.range (rYs 517)).all (re_ckI (rYb 517) (rIns 517)) = true := by decide +kernel
theorem rK518 : (List.range (rYs 518)).all (re_ckI (rYb 518) (rIns 518)) = true := by decide +kernel
theorem rK519 : (List.range (rYs 519)).all (re_ckI (rYb 519) (rIns 519)) = true := by decide +kernel
theorem rK520 : (List.range (rYs 520)).all (re_ckI (rYb 520) (rIns 520)) = true := by decide +kernel
theorem rK521 : (List.range (rYs 521)).all (re_ckI (rYb 521) (rIns 521)) = true := by decide +kernel
theorem rK522 : (List.range (rYs 522)).all (re_ckI (rYb 522) (rIns 522)) = true := by decide +kernel
theorem rK523 : (List.range (rYs 523)).all (re_ckI (rYb 523) (rIns 523)) = true := by decide +kernel
theorem rK576 : (List.range (rYs 576)).all (re_ckI (rYb 576) (rIns 576)) = true := by decide +kernel
theorem rK577_0 : (List.range 50).all (fun k => re_ckI (rYb 577) (rIns 577) (k + 50 * 0)) = true := by decide +kernel
theorem rK577_1 : (List.range 50).all (fun k => re_ckI (rYb 577) (rIns 577) (k + 50 * 1)) = true := by decide +kernel
theorem rK577_2 : (List.range 50).all (fun k => re_ckI (rYb 577) (rIns 577) (k + 50 * 2)) = true := by decide +kernel
theorem rK577_3 : (List.range 50).all (fun k => re_ckI (rYb 577) (rIns 577) (k + 50 * 3)) = true := by decide +kernel
theorem rK577_4 : (List.range 50).all (fun k => re_ckI (rYb 577) (rIns 577) (k + 50 * 4)) = true := by decide +kernel
theorem rK577_5 : (List.range 50).all (fun k => re_ckI (rYb 577) (rIns 577) (k + 50 * 5)) = true := by decide +kernel
theorem rK577_6 : (List.range 50).all (fun k => re_ckI (rYb 577) (rIns 577) (k + 50 * 6)) = true := by decide +kernel
theorem rK577_7 : (List.range 50).all (fun k => re_ckI (rYb 577) (rIns 577) (k + 50 * 7)) = true := by decide +kernel
theorem rK577 : (List.range (rYs 577)).all (re_ckI (rYb 577) (rIns 577)) = true := re_big (m := 8) (by decide +kernel) (fun i hi => match i, hi with
  | 0, _ => rK577_0
  | 1, _ => rK577_1
  | 2, _ => rK577_2
  | 3, _ => rK577_3
  | 4, _ => rK577_4
  | 5, _ => rK577_5
  | 6, _ => rK577_6
  | 7, _ => rK577_7
  | i + 8, h => absurd h (by omega))
def rIdl3 : List Nat := [457, 458, 459, 460, 461, 462, 463, 464, 512, 513, 514, 515, 516, 517, 518, 519, 520, 521, 522, 523, 576, 577]
theorem rKl3 : ∀ y ∈ rIdl3, (List.range (rYs y)).all (re_ckI (rYb y) (rIns y)) = true := List.forall_mem_cons.mpr ⟨rK457, List.forall_mem_cons.mpr ⟨rK458, List.forall_mem_cons.mpr ⟨rK459, List.forall_mem_cons.mpr ⟨rK460, List.forall_mem_cons.mpr ⟨rK461, List.forall_mem_cons.mpr ⟨rK462, List.forall_mem_cons.mpr ⟨rK463, List.forall_mem_cons.mpr ⟨rK464, List.forall_mem_cons.mpr ⟨rK512, List.forall_mem_cons.mpr ⟨rK513, List.forall_mem_cons.mpr ⟨rK514, List.forall_mem_cons.mpr ⟨rK515, List.forall_mem_cons.mpr ⟨rK516, List.forall_mem_cons.mpr ⟨rK517, List.forall_mem_cons.mpr ⟨rK518, List.forall_mem_cons.mpr ⟨rK519, List.forall_mem_cons.mpr ⟨rK520, List.forall_mem_cons.mpr ⟨rK521, List.forall_mem_cons.mpr ⟨rK522, List.forall_mem_cons.mpr ⟨rK523, List.forall_mem_cons.mpr ⟨rK576, List.forall_mem_cons.mpr ⟨rK577, fun _ h => absurd h List.not_mem_nil⟩⟩⟩⟩⟩⟩⟩⟩⟩⟩⟩⟩⟩⟩⟩⟩⟩⟩⟩⟩⟩⟩
