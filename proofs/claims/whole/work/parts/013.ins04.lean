theorem rK578 : (List.range (rYs 578)).all (re_ckI (rYb 578) (rIns 578)) = true := by decide +kernel
theorem rK579 : (List.range (rYs 579)).all (re_ckI (rYb 579) (rIns 579)) = true := by decide +kernel
theorem rK580 : (List.range (rYs 580)).all (re_ckI (rYb 580) (rIns 580)) = true := by decide +kernel
theorem rK640 : (List.range (rYs 640)).all (re_ckI (rYb 640) (rIns 640)) = true := by decide +kernel
theorem rK704 : (List.range (rYs 704)).all (re_ckI (rYb 704) (rIns 704)) = true := by decide +kernel
theorem rK705 : (List.range (rYs 705)).all (re_ckI (rYb 705) (rIns 705)) = true := by decide +kernel
theorem rK706 : (List.range (rYs 706)).all (re_ckI (rYb 706) (rIns 706)) = true := by decide +kernel
theorem rK707 : (List.range (rYs 707)).all (re_ckI (rYb 707) (rIns 707)) = true := by decide +kernel
theorem rK708 : (List.range (rYs 708)).all (re_ckI (rYb 708) (rIns 708)) = true := by decide +kernel
theorem rK709 : (List.range (rYs 709)).all (re_ckI (rYb 709) (rIns 709)) = true := by decide +kernel
theorem rK710 : (List.range (rYs 710)).all (re_ckI (rYb 710) (rIns 710)) = true := by decide +kernel
theorem rK711 : (List.range (rYs 711)).all (re_ckI (rYb 711) (rIns 711)) = true := by decide +kernel
theorem rK712 : (List.range (rYs 712)).all (re_ckI (rYb 712) (rIns 712)) = true := by decide +kernel
theorem rK713 : (List.range (rYs 713)).all (re_ckI (rYb 713) (rIns 713)) = true := by decide +kernel
theorem rK714 : (List.range (rYs 714)).all (re_ckI (rYb 714) (rIns 714)) = true := by decide +kernel
theorem rK715 : (List.range (rYs 715)).all (re_ckI (rYb 715) (rIns 715)) = true := by decide +kernel
theorem rK716 : (List.range (rYs 716)).all (re_ckI (rYb 716) (rIns 716)) = true := by decide +kernel
theorem rK717 : (List.range (rYs 717)).all (re_ckI (rYb 717) (rIns 717)) = true := by decide +kernel
theorem rK718 : (List.range (rYs 718)).all (re_ckI (rYb 718) (rIns 718)) = true := by decide +kernel
theorem rK719 : (List.range (rYs 719)).all (re_ckI (rYb 719) (rIns 719)) = true := by decide +kernel
theorem rK720 : (List.range (rYs 720)).all (re_ckI (rYb 720) (rIns 720)) = true := by decide +kernel
theorem rK721 : (List.range (rYs 721)).all (re_ckI (rYb 721) (rIns 721)) = true := by decide +kernel
theorem rK722 : (List.range (rYs 722)).all (re_ckI (rYb 722) (rIns 722)) = true := by decide +kernel
theorem rK723 : (List.range (rYs 723)).all (re_ckI (rYb 723) (rIns 723)) = true := by decide +kernel
theorem rK724 : (List.range (rYs 724)).all (re_ckI (rYb 724) (rIns 724)) = true := by decide +kernel
theorem rK725 : (List.range (rYs 725)).all (re_ckI (rYb 725) (rIns 725)) = true := by decide +kernel
theorem rK726 : (List.range (rYs 726)).all (re_ckI (rYb 726) (rIns 726)) = true := by decide +kernel
theorem rK727 : (List.range (rYs 727)).all (re_ckI (rYb 727) (rIns 727)) = true := by decide +kernel
theorem rK728 : (List.range (rYs 728)).all (re_ckI (rYb 728) (rIns 728)) = true := by decide +kernel
theorem rK729 : (List.range (rYs 729)).all (re_ckI (rYb 729) (rIns 729)) = true := by decide +kernel
theorem rK730 : (List.range (rYs 730)).all (re_ckI (rYb 730) (rIns 730)) = true := by decide +kernel
theorem rK731 : (List.range (rYs 731)).all (re_ckI (rYb 731) (rIns 731)) = true := by decide +kernel
theorem rK732 : (List.range (rYs 732)).all (re_ckI (rYb 732) (rIns 732)) = true := by decide +kernel
theorem rK733_0 : (List.range 50).all (fun k => re_ckI (rYb 733) (rIns 733) (k + 50 * 0)) = true := by decide +kernel
theorem rK733_1 : (List.range 50).all (fun k => re_ckI (rYb 733) (rIns 733) (k + 50 * 1)) = true := by decide +kernel
theorem rK733_2 : (List.range 50).all (fun k => re_ckI (rYb 733) (rIns 733) (k + 50 * 2)) = true := by decide +kernel
theorem rK733_3 : (List.range 50).all (fun k => re_ckI (rYb 733) (rIns 733) (k + 50 * 3)) = true := by decide +kernel
theorem rK733_4 : (List.range 50).all (fun k => re_ckI (rYb 733) (rIns 733) (k + 50 * 4)) = true := by decide +kernel
theorem rK733_5 : (List.range 50).all (fun k => re_ckI (rYb 733) (rIns 733) (k + 50 * 5)) = true := by decide +kernel
theorem rK733_6 : (List.range 50).all (fun k => re_ckI (rYb 733) (rIns 733) (k + 50 * 6)) = true := by decide +kernel
theorem rK733_7 : (List.range 50).all (fun k => re_ckI (rYb 733) (rIns 733) (k + 50 * 7)) = true := by decide +kernel
theorem rK733_8 : (List.range 50).all (fun k => re_ckI (rYb 733) (rIns 733) (k + 50 * 8)) = true := by decide +kernel
theorem rK733_9 : (List.range 50).all (fun k => re_ckI (rYb 733) (rIns 733) (k + 50 * 9)) = true := by decide +kernel
theorem rK733_10 : (List.range 50).all (fun k => re_ckI (rYb 733) (rIns 733) (k + 50 * 10)) = true := by decide +kernel
theorem rK733_11 : (List.range 50).all (fun k => re_ckI (rYb 733) (rIns 733) (k + 50 * 11)) = true := by decide +kernel
theorem rK733_12 : (List.range 50).all (fun k => re_ckI (rYb 733) (rIns 733) (k + 50 * 12)) = true := by decide +kernel
theorem rK733_13 : (List.range 50).all (fun k => re_ckI (rYb 733) (rIns 733) (k + 50 * 13)) = true := by decide +kernel
theorem rK733_14 : (List.range 50).all (fun k => re_ckI (rYb 733) (rIns 733) (k + 50 * 14)) = true := by decide +kernel
theorem rK733_15 : (List.range 50).all (fun k => re_ckI (rYb 733) (rIns 733) (k + 50 * 15)) = true := by decide +kernel
theorem rK733_16 : (List.range 50).all (fun k => re_ckI (rYb 733) (rIns 733) (k + 50 * 16)) = true := by decide +kernel
theorem rK733_17 : (List.range 50).all (fun k => re_ckI (rYb 733) (rIns 733) (k + 50 * 17)) = true := by decide +kernel
theorem rK733_18 : (List.range 50).all (fun k => re_ckI (rYb 733) (rIns 733) (k + 50 * 18)) = true := by decide +kernel
theorem rK733_19 : (List.range 50).all (fun k => re_ckI (rYb 733) (rIns 733) (k + 50 * 19)) = true := by decide +kernel
theorem rK733_20 : (List.range 50).all (fun k => re_ckI (rYb 733) (rIns 733) (k + 50 * 20)) = true := by decide +kernel
theorem rK733_21 : (List.range 50).all (fun k => re_ckI (rYb 733) (rIns 733) (k + 50 * 21)) = true := by decide +kernel
theorem rK733_22 : (List.range 50).all (fun k => re_ckI (rYb 733) (rIns 733) (k + 50 * 22)) = true := by decide +kernel
theorem rK733_23 : (List.range 50).all (fun k => re_ckI (rYb 733) (rIns 733) (k + 50 * 23)) = true := by decide +kernel
theorem rK733_24 : (List.range 50).all (fun k => re_ckI (rYb 733) (rIns 733) (k + 50 * 24)) = true := by decide +kernel
theorem rK733_25 : (List.range 50).all (fun k => re_ckI (rYb 733) (rIns 733) (k + 50 * 25)) = true := by decide +kernel
theorem rK733_26 : (List.range 50).all (fun k => re_ckI (rYb 733) (rIns 733) (k + 50 * 26)) = true := by decide +kernel
theorem rK733_27 : (List.range 50).all (fun k => re_ckI (rYb 733) (rIns 733) (k + 50 * 27)) = true := by decide +kernel
theorem rK733_28 : (List.range 50).all (fun k => re_ckI (rYb 733) (rIns 733) (k + 50 * 28)) = true := by decide +kernel
theorem rK733_29 : (List.range 50).all (fun k => re_ckI (rYb 733) (rIns 733) (k + 50 * 29)) = true := by decide +kernel
theorem rK733_30 : (List.range 50).all (fun k => re_ckI (rYb 733) (rIns 733) (k + 50 * 30)) = true := by decide +kernel
theorem rK733_31 : (List.range 50).all (fun k => re_ckI (rYb 733) (rIns 733) (k + 50 * 31)) = true := by decide +kernel
theorem rK733_32 : (List.range 50).all (fun k => re_ckI (rYb 733) (rIns 733) (k + 50 * 32)) = true := by decide +kernel
theorem rK733_33 : (List.range 50).all (fun k => re_ckI (rYb 733) (rIns 733) (k + 50 * 33)) = true := by decide +kernel
theorem rK733_34 : (List.range 50).all (fun k => re_ckI (rYb 733) (rIns 733) (k + 50 * 34)) = true := by decide +kernel
theorem rK733_35 : (List.range 50).all (fun k => re_ckI (rYb 733) (rIns 733) (k + 50 * 35)) = true := by decide +kernel
theorem rK733_36 : (List.range 50).all (fun k => re_ckI (rYb 733) (rIns 733) (k + 50 * 36)) = true := by decide +kernel
theorem rK733_37 : (List.range 50).all (fun k => re_ckI (rYb 733) (rIns 733) (k + 50 * 37)) = true := by decide +kernel
theorem rK733_38 : (List.range 50).all (fun k => re_ckI (rYb 733) (rIns 733) (k + 50 * 38)) = true := by decide +kernel
theorem rK733 : (List.range (rYs 733)).all (re_ckI (rYb 733) (rIns 733)) = true := re_big (m := 39) (by decide +kernel) (fun i hi => match i, hi with
  | 0, _ => rK733_0
  | 1, _ => rK733_1
  | 2, _ => rK733_2
  | 3, _ => rK733_3
  | 4, _ => rK733_4
  | 5, _ => rK733_5
  | 6, _ => rK733_6
  | 7, _ => rK733_7
  | 8, _ => rK733_8
  | 9, _ => rK733_9
  | 10, _ => rK733_10
  | 11, _ => rK733_11
  | 12, _ => rK733_12
  | 13, _ => rK733_13
  | 14, _ => rK733_14
  | 15, _ => rK733_15
  | 16, _ => rK733_16
  | 17, _ => rK733_17
  | 18, _ => rK733_18
  | 19, _ => rK733_19
  | 20, _ => rK733_20
  | 21, _ => rK733_21
  | 22, _ => rK733_22
  | 23, _ => rK733_23
  | 24, _ => rK733_24
  | 25, _ => rK733_25
  | 26, _ => rK733_26
  | 27, _ => rK733_27
  | 28, _ => rK733_28
  | 29, _ => rK733_29
  | 30, _ => rK733_30
  | 31, _ => rK733_31
  | 32, _ => rK733_32
  | 33, _ => rK733_33
  | 34, _ => rK733_34
  | 35, _ => rK733_35
  | 36, _ => rK733_36
  | 37, _ => rK733_37
  | 38, _ => rK733_38
  | i + 39, h => absurd h (by omega))
def rIdl4 : List Nat := [578, 579, 580, 640, 704, 705, 706, 707, 708, 709, 710, 711, 712, 713, 714, 715, 716, 717, 718, 719, 720, 721, 722, 723, 724, 725, 726, 727, 728, 729, 730, 731, 732, 733]
theorem rKl4 : ∀ y ∈ rIdl4, (List.range (rYs y)).all (re_ckI (rYb y) (rIns y)) = true := List.forall_mem_cons.mpr ⟨rK578, List.forall_mem_cons.mpr ⟨rK579, List.forall_mem_cons.mpr ⟨rK580, List.forall_mem_cons.mpr ⟨rK640, List.forall_mem_cons.mpr ⟨rK704, List.forall_mem_cons.mpr ⟨rK705, List.forall_mem_cons.mpr ⟨rK706, List.forall_mem_cons.mpr ⟨rK707, List.forall_mem_cons.mpr ⟨rK708, List.forall_mem_cons.mpr ⟨rK709, List.forall_mem_cons.mpr ⟨rK710, List.forall_mem_cons.mpr ⟨rK711, List.forall_mem_cons.mpr ⟨rK712, List.forall_mem_cons.mpr ⟨rK713, List.forall_mem_cons.mpr ⟨rK714, List.forall_mem_cons.mpr ⟨rK715, List.forall_mem_cons.mpr ⟨rK716, List.forall_mem_cons.mpr ⟨rK717, List.forall_mem_cons.mpr ⟨rK718, List.forall_mem_cons.mpr ⟨rK719, List.forall_mem_cons.mpr ⟨rK720, List.forall_mem_cons.mpr ⟨rK721, List.forall_mem_cons.mpr ⟨rK722, List.forall_mem_cons.mpr ⟨rK723, List.forall_mem_cons.mpr ⟨rK724, List.forall_mem_cons.mpr ⟨rK725, List.forall_mem_cons.mpr ⟨rK726, List.forall_mem_cons.mpr ⟨rK727, List.forall_mem_cons.mpr ⟨rK728, List.forall_mem_cons.mpr ⟨rK729, List.forall_mem_cons.mpr ⟨rK730, List.forall_mem_cons.mpr ⟨rK731, List.forall_mem_cons.mpr ⟨rK732, List.forall_mem_cons.mpr ⟨rK733, fun _ h => absurd h List.not_mem_nil⟩⟩⟩⟩⟩⟩⟩⟩⟩⟩⟩⟩⟩⟩⟩⟩⟩⟩⟩⟩⟩⟩⟩⟩⟩⟩⟩⟩⟩⟩⟩⟩⟩⟩
