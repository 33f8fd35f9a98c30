theorem rK578 : (List.range (rYs 578)).all (re_ckI (rYb 578) (rIns 578)) = true := by decide +kernel
theorem rK579 : (List.range (rYs 579)).all (re_ckI (rYb 579) (rIns 579)) = true := by decide +kernel
theorem rK580 : (List.range (rYs 580)).all (re_ckI (rYb 580) (rIns 580)) = true := by decide +kernel
theorem rK640 : (List.range (rYs 640)).all (re_ckI (rYb 640) (rIns 640)) = true := by decide +kernel
theorem rK641 : (List.range (rYs 641)).all (re_ckI (rYb 641) (rIns 641)) = true := by decide +kernel
theorem rK642 : (List.range (rYs 642)).all (re_ckI (rYb 642) (rIns 642)) = true := by decide +kernel
theorem rK643 : (List.range (rYs 643)).all (re_ckI (rYb 643) (rIns 643)) = true := by decide +kernel
theorem rK644 : (List.range (rYs 644)).all (re_ckI (rYb 644) (rIns 644)) = true := by decide +kernel
theorem rK645 : (List.range (rYs 645)).all (re_ckI (rYb 645) (rIns 645)) = true := by decide +kernel
theorem rK646 : (List.range (rYs 646)).all (re_ckI (rYb 646) (rIns 646)) = true := by decide +kernel
theorem rK647 : (List.range (rYs 647)).all (re_ckI (rYb 647) (rIns 647)) = true := by decide +kernel
theorem rK648 : (List.range (rYs 648)).all (re_ckI (rYb 648) (rIns 648)) = true := by decide +kernel
theorem rK649 : (List.range (rYs 649)).all (re_ckI (rYb 649) (rIns 649)) = true := by decide +kernel
theorem rK650 : (List.range (rYs 650)).all (re_ckI (rYb 650) (rIns 650)) = true := by decide +kernel
theorem rK651 : (List.range (rYs 651)).all (re_ckI (rYb 651) (rIns 651)) = true := by decide +kernel
theorem rK652 : (List.range (rYs 652)).all (re_ckI (rYb 652) (rIns 652)) = true := by decide +kernel
theorem rK653 : (List.range (rYs 653)).all (re_ckI (rYb 653) (rIns 653)) = true := by decide +kernel
theorem rK654 : (List.range (rYs 654)).all (re_ckI (rYb 654) (rIns 654)) = true := by decide +kernel
theorem rK655 : (List.range (rYs 655)).all (re_ckI (rYb 655) (rIns 655)) = true := by decide +kernel
theorem rK656 : (List.range (rYs 656)).all (re_ckI (rYb 656) (rIns 656)) = true := by decide +kernel
theorem rK657 : (List.range (rYs 657)).all (re_ckI (rYb 657) (rIns 657)) = true := by decide +kernel
theorem rK658 : (List.range (rYs 658)).all (re_ckI (rYb 658) (rIns 658)) = true := by decide +kernel
theorem rK659 : (List.range (rYs 659)).all (re_ckI (rYb 659) (rIns 659)) = true := by decide +kernel
theorem rK660 : (List.range (rYs 660)).all (re_ckI (rYb 660) (rIns 660)) = true := by decide +kernel
theorem rK661 : (List.range (rYs 661)).all (re_ckI (rYb 661) (rIns 661)) = true := by decide +kernel
theorem rK662 : (List.range (rYs 662)).all (re_ckI (rYb 662) (rIns 662)) = true := by decide +kernel
theorem rK663 : (List.range (rYs 663)).all (re_ckI (rYb 663) (rIns 663)) = true := by decide +kernel
theorem rK664 : (List.range (rYs 664)).all (re_ckI (rYb 664) (rIns 664)) = true := by decide +kernel
theorem rK665 : (List.range (rYs 665)).all (re_ckI (rYb 665) (rIns 665)) = true := by decide +kernel
theorem rK666 : (List.range (rYs 666)).all (re_ckI (rYb 666) (rIns 666)) = true := by decide +kernel
theorem rK667 : (List.range (rYs 667)).all (re_ckI (rYb 667) (rIns 667)) = true := by decide +kernel
theorem rK668 : (List.range (rYs 668)).all (re_ckI (rYb 668) (rIns 668)) = true := by decide +kernel
theorem rK669_0 : (List.range 50).all (fun k => re_ckI (rYb 669) (rIns 669) (k + 50 * 0)) = true := by decide +kernel
theorem rK669_1 : (List.range 50).all (fun k => re_ckI (rYb 669) (rIns 669) (k + 50 * 1)) = true := by decide +kernel
theorem rK669_2 : (List.range 50).all (fun k => re_ckI (rYb 669) (rIns 669) (k + 50 * 2)) = true := by decide +kernel
theorem rK669_3 : (List.range 50).all (fun k => re_ckI (rYb 669) (rIns 669) (k + 50 * 3)) = true := by decide +kernel
theorem rK669_4 : (List.range 50).all (fun k => re_ckI (rYb 669) (rIns 669) (k + 50 * 4)) = true := by decide +kernel
theorem rK669_5 : (List.range 50).all (fun k => re_ckI (rYb 669) (rIns 669) (k + 50 * 5)) = true := by decide +kernel
theorem rK669_6 : (List.range 50).all (fun k => re_ckI (rYb 669) (rIns 669) (k + 50 * 6)) = true := by decide +kernel
theorem rK669_7 : (List.range 50).all (fun k => re_ckI (rYb 669) (rIns 669) (k + 50 * 7)) = true := by decide +kernel
theorem rK669_8 : (List.range 50).all (fun k => re_ckI (rYb 669) (rIns 669) (k + 50 * 8)) = true := by decide +kernel
theorem rK669_9 : (List.range 50).all (fun k => re_ckI (rYb 669) (rIns 669) (k + 50 * 9)) = true := by decide +kernel
theorem rK669_10 : (List.range 50).all (fun k => re_ckI (rYb 669) (rIns 669) (k + 50 * 10)) = true := by decide +kernel
theorem rK669_11 : (List.range 50).all (fun k => re_ckI (rYb 669) (rIns 669) (k + 50 * 11)) = true := by decide +kernel
theorem rK669_12 : (List.range 50).all (fun k => re_ckI (rYb 669) (rIns 669) (k + 50 * 12)) = true := by decide +kernel
theorem rK669_13 : (List.range 50).all (fun k => re_ckI (rYb 669) (rIns 669) (k + 50 * 13)) = true := by decide +kernel
theorem rK669_14 : (List.range 50).all (fun k => re_ckI (rYb 669) (rIns 669) (k + 50 * 14)) = true := by decide +kernel
theorem rK669_15 : (List.range 50).all (fun k => re_ckI (rYb 669) (rIns 669) (k + 50 * 15)) = true := by decide +kernel
theorem rK669_16 : (List.range 50).all (fun k => re_ckI (rYb 669) (rIns 669) (k + 50 * 16)) = true := by decide +kernel
theorem rK669_17 : (List.range 50).all (fun k => re_ckI (rYb 669) (rIns 669) (k + 50 * 17)) = true := by decide +kernel
theorem rK669_18 : (List.range 50).all (fun k => re_ckI (rYb 669) (rIns 669) (k + 50 * 18)) = true := by decide +kernel
theorem rK669_19 : (List.range 50).all (fun k => re_ckI (rYb 669) (rIns 669) (k + 50 * 19)) = true := by decide +kernel
theorem rK669_20 : (List.range 50).all (fun k => re_ckI (rYb 669) (rIns 669) (k + 50 * 20)) = true := by decide +kernel
theorem rK669_21 : (List.range 50).all (fun k => re_ckI (rYb 669) (rIns 669) (k + 50 * 21)) = true := by decide +kernel
theorem rK669_22 : (List.range 50).all (fun k => re_ckI (rYb 669) (rIns 669) (k + 50 * 22)) = true := by decide +kernel
theorem rK669_23 : (List.range 50).all (fun k => re_ckI (rYb 669) (rIns 669) (k + 50 * 23)) = true := by decide +kernel
theorem rK669_24 : (List.range 50).all (fun k => re_ckI (rYb 669) (rIns 669) (k + 50 * 24)) = true := by decide +kernel
theorem rK669_25 : (List.range 50).all (fun k => re_ckI (rYb 669) (rIns 669) (k + 50 * 25)) = true := by decide +kernel
theorem rK669_26 : (List.range 50).all (fun k => re_ckI (rYb 669) (rIns 669) (k + 50 * 26)) = true := by decide +kernel
theorem rK669_27 : (List.range 50).all (fun k => re_ckI (rYb 669) (rIns 669) (k + 50 * 27)) = true := by decide +kernel
theorem rK669_28 : (List.range 50).all (fun k => re_ckI (rYb 669) (rIns 669) (k + 50 * 28)) = true := by decide +kernel
theorem rK669_29 : (List.range 50).all (fun k => re_ckI (rYb 669) (rIns 669) (k + 50 * 29)) = true := by decide +kernel
theorem rK669_30 : (List.range 50).all (fun k => re_ckI (rYb 669) (rIns 669) (k + 50 * 30)) = true := by decide +kernel
theorem rK669_31 : (List.range 50).all (fun k => re_ckI (rYb 669) (rIns 669) (k + 50 * 31)) = true := by decide +kernel
theorem rK669_32 : (List.range 50).all (fun k => re_ckI (rYb 669) (rIns 669) (k + 50 * 32)) = true := by decide +kernel
theorem rK669_33 : (List.range 50).all (fun k => re_ckI (rYb 669) (rIns 669) (k + 50 * 33)) = true := by decide +kernel
theorem rK669_34 : (List.range 50).all (fun k => re_ckI (rYb 669) (rIns 669) (k + 50 * 34)) = true := by decide +kernel
theorem rK669_35 : (List.range 50).all (fun k => re_ckI (rYb 669) (rIns 669) (k + 50 * 35)) = true := by decide +kernel
theorem rK669_36 : (List.range 50).all (fun k => re_ckI (rYb 669) (rIns 669) (k + 50 * 36)) = true := by decide +kernel
theorem rK669_37 : (List.range 50).all (fun k => re_ckI (rYb 669) (rIns 669) (k + 50 * 37)) = true := by decide +kernel
theorem rK669_38 : (List.range 50).all (fun k => re_ckI (rYb 669) (rIns 669) (k + 50 * 38)) = true := by decide +kernel
theorem rK669 : (List.range (rYs 669)).all (re_ckI (rYb 669) (rIns 669)) = true := re_big (m := 39) (by decide +kernel) (fun i hi => match i, hi with
  | 0, _ => rK669_0
  | 1, _ => rK669_1
  | 2, _ => rK669_2
  | 3, _ => rK669_3
  | 4, _ => rK669_4
  | 5, _ => rK669_5
  | 6, _ => rK669_6
  | 7, _ => rK669_7
  | 8, _ => rK669_8
  | 9, _ => rK669_9
  | 10, _ => rK669_10
  | 11, _ => rK669_11
  | 12, _ => rK669_12
  | 13, _ => rK669_13
  | 14, _ => rK669_14
  | 15, _ => rK669_15
  | 16, _ => rK669_16
  | 17, _ => rK669_17
  | 18, _ => rK669_18
  | 19, _ => rK669_19
  | 20, _ => rK669_20
  | 21, _ => rK669_21
  | 22, _ => rK669_22
  | 23, _ => rK669_23
  | 24, _ => rK669_24
  | 25, _ => rK669_25
  | 26, _ => rK669_26
  | 27, _ => rK669_27
  | 28, _ => rK669_28
  | 29, _ => rK669_29
  | 30, _ => rK669_30
  | 31, _ => rK669_31
  | 32, _ => rK669_32
  | 33, _ => rK669_33
  | 34, _ => rK669_34
  | 35, _ => rK669_35
  | 36, _ => rK669_36
  | 37, _ => rK669_37
  | 38, _ => rK669_38
  | i + 39, h => absurd h (by omega))
def rIdl4 : List Nat := [578, 579, 580, 640, 641, 642, 643, 644, 645, 646, 647, 648, 649, 650, 651, 652, 653, 654, 655, 656, 657, 658, 659, 660, 661, 662, 663, 664, 665, 666, 667, 668, 669]
theorem rKl4 : ∀ y ∈ rIdl4, (List.range (rYs y)).all (re_ckI (rYb y) (rIns y)) = true := List.forall_mem_cons.mpr ⟨rK578, List.forall_mem_cons.mpr ⟨rK579, List.forall_mem_cons.mpr ⟨rK580, List.forall_mem_cons.mpr ⟨rK640, List.forall_mem_cons.mpr ⟨rK641, List.forall_mem_cons.mpr ⟨rK642, List.forall_mem_cons.mpr ⟨rK643, List.forall_mem_cons.mpr ⟨rK644, List.forall_mem_cons.mpr ⟨rK645, List.forall_mem_cons.mpr ⟨rK646, List.forall_mem_cons.mpr ⟨rK647, List.forall_mem_cons.mpr ⟨rK648, List.forall_mem_cons.mpr ⟨rK649, List.forall_mem_cons.mpr ⟨rK650, List.forall_mem_cons.mpr ⟨rK651, List.forall_mem_cons.mpr ⟨rK652, List.forall_mem_cons.mpr ⟨rK653, List.forall_mem_cons.mpr ⟨rK654, List.forall_mem_cons.mpr ⟨rK655, List.forall_mem_cons.mpr ⟨rK656, List.forall_mem_cons.mpr ⟨rK657, List.forall_mem_cons.mpr ⟨rK658, List.forall_mem_cons.mpr ⟨rK659, List.forall_mem_cons.mpr ⟨rK660, List.forall_mem_cons.mpr ⟨rK661, List.forall_mem_cons.mpr ⟨rK662, List.forall_mem_cons.mpr ⟨rK663, List.forall_mem_cons.mpr ⟨rK664, List.forall_mem_cons.mpr ⟨rK665, List.forall_mem_cons.mpr ⟨rK666, List.forall_mem_cons.mpr ⟨rK667, List.forall_mem_cons.mpr ⟨rK668, List.forall_mem_cons.mpr ⟨rK669, fun _ h => absurd h List.not_mem_nil⟩⟩⟩⟩⟩⟩⟩⟩⟩⟩⟩⟩⟩⟩⟩⟩⟩⟩⟩⟩⟩⟩⟩⟩⟩⟩⟩⟩⟩⟩⟩⟩⟩
