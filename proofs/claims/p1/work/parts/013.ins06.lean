theorem rK705 : (List.range (rYs 705)).all (re_ckI (rYb 705) (rIns 705)) = true := by decide +kernel
theorem rK706 : (List.range (rYs 706)).all (re_ckI (rYb 706) (rIns 706)) = true := by decide +kernel
theorem rK707 : (List.range (rYs 707)).all (re_ckI (rYb 707) (rIns 707)) = true := by decide +kernel
theorem rK708 : (List.range (rYs 708)).all (re_ckI (rYb 708) (rIns 708)) = true := by decide +kernel
theorem rK709 : (List.range (rYs 709)).all (re_ckI (rYb 709) (rIns 709)) = true := by decide +kernel
theorem rK710 : (List.range (rYs 710)).all (re_ckI (rYb 710) (rIns 710)) = true := by decide +kernel
theorem rK711 : (List.range (rYs 711)).all (re_ckI (rYb 711) (rIns 711)) = true := by decide +kernel
theorem rK712 : (List.range (rYs 712)).all (re_ckI (rYb 712) (rIns 712)) = true := by decide +kernel
theorem rK713 : (List.range (rYs 713)).all (re_ckI (rYb 713) (rIns 713)) = true := by decide +kernel
theorem rK714 : (List.range (rYs 714)).all (re_ckI (rYb 714) (rIns 714)) = true := by decide +kernel
theorem rK715 : (List.range (rYs 715)).all (re_ckI (rYb 715) (rIns 715)) = true := by decide +kernel
theorem rK716 : (List.range (rYs 716)).all (re_ckI (rYb 716) (rIns 716)) = true := by decide +kernel
theorem rK717 : (List.range (rYs 717)).all (re_ckI (rYb 717) (rIns 717)) = true := by decide +kernel
theorem rK718 : (List.range (rYs 718)).all (re_ckI (rYb 718) (rIns 718)) = true := by decide +kernel
theorem rK719 : (List.range (rYs 719)).all (re_ckI (rYb 719) (rIns 719)) = true := by decide +kernel
theorem rK720 : (List.range (rYs 720)).all (re_ckI (rYb 720) (rIns 720)) = true := by decide +kernel
theorem rK721 : (List.range (rYs 721)).all (re_ckI (rYb 721) (rIns 721)) = true := by decide +kernel
theorem rK722 : (List.range (rYs 722)).all (re_ckI (rYb 722) (rIns 722)) = true := by decide +kernel
theorem rK723 : (List.range (rYs 723)).all (re_ckI (rYb 723) (rIns 723)) = true := by decide +kernel
theorem rK724 : (List.range (rYs 724)).all (re_ckI (rYb 724) (rIns 724)) = true := by decide +kernel
theorem rK725 : (List.range (rYs 725)).all (re_ckI (rYb 725) (rIns 725)) = true := by decide +kernel
theorem rK726 : (List.range (rYs 726)).all (re_ckI (rYb 726) (rIns 726)) = true := by decide +kernel
theorem rK727 : (List.range (rYs 727)).all (re_ckI (rYb 727) (rIns 727)) = true := by decide +kernel
theorem rK728 : (List.range (rYs 728)).all (re_ckI (rYb 728) (rIns 728)) = true := by decide +kernel
theorem rK729 : (List.range (rYs 729)).all (re_ckI (rYb 729) (rIns 729)) = true := by decide +kernel
theorem rK730 : (List.range (rYs 730)).all (re_ckI (rYb 730) (rIns 730)) = true := by decide +kernel
theorem rK731 : (List.range (rYs 731)).all (re_ckI (rYb 731) (rIns 731)) = true := by decide +kernel
theorem rK732_0 : (List.range 50).all (fun k => re_ckI (rYb 732) (rIns 732) (k + 50 * 0)) = true := by decide +kernel
theorem rK732_1 : (List.range 50).all (fun k => re_ckI (rYb 732) (rIns 732) (k + 50 * 1)) = true := by decide +kernel
theorem rK732_2 : (List.range 50).all (fun k => re_ckI (rYb 732) (rIns 732) (k + 50 * 2)) = true := by decide +kernel
theorem rK732_3 : (List.range 50).all (fun k => re_ckI (rYb 732) (rIns 732) (k + 50 * 3)) = true := by decide +kernel
theorem rK732_4 : (List.range 50).all (fun k => re_ckI (rYb 732) (rIns 732) (k + 50 * 4)) = true := by decide +kernel
theorem rK732_5 : (List.range 50).all (fun k => re_ckI (rYb 732) (rIns 732) (k + 50 * 5)) = true := by decide +kernel
theorem rK732_6 : (List.range 50).all (fun k => re_ckI (rYb 732) (rIns 732) (k + 50 * 6)) = true := by decide +kernel
theorem rK732_7 : (List.range 50).all (fun k => re_ckI (rYb 732) (rIns 732) (k + 50 * 7)) = true := by decide +kernel
theorem rK732_8 : (List.range 50).all (fun k => re_ckI (rYb 732) (rIns 732) (k + 50 * 8)) = true := by decide +kernel
theorem rK732 : (List.range (rYs 732)).all (re_ckI (rYb 732) (rIns 732)) = true := re_big (m := 9) (by decide +kernel) (fun i hi => match i, hi with
  | 0, _ => rK732_0
  | 1, _ => rK732_1
  | 2, _ => rK732_2
  | 3, _ => rK732_3
  | 4, _ => rK732_4
  | 5, _ => rK732_5
  | 6, _ => rK732_6
  | 7, _ => rK732_7
  | 8, _ => rK732_8
  | i + 9, h => absurd h (by omega))
def rIdl6 : List Nat := [705, 706, 707, 708, 709, 710, 711, 712, 713, 714, 715, 716, 717, 718, 719, 720, 721, 722, 723, 724, 725, 726, 727, 728, 729, 730, 731, 732]
theorem rKl6 : ∀ y ∈ rIdl6, (List.range (rYs y)).all (re_ckI (rYb y) (rIns y)) = true := List.forall_mem_cons.mpr ⟨rK705, List.forall_mem_cons.mpr ⟨rK706, List.forall_mem_cons.mpr ⟨rK707, List.forall_mem_cons.mpr ⟨rK708, List.forall_mem_cons.mpr ⟨rK709, List.forall_mem_cons.mpr ⟨rK710, List.forall_mem_cons.mpr ⟨rK711, List.forall_mem_cons.mpr ⟨rK712, List.forall_mem_cons.mpr ⟨rK713, List.forall_mem_cons.mpr ⟨rK714, List.forall_mem_cons.mpr ⟨rK715, List.forall_mem_cons.mpr ⟨rK716, List.forall_mem_cons.mpr ⟨rK717, List.forall_mem_cons.mpr ⟨rK718, List.forall_mem_cons.mpr ⟨rK719, List.forall_mem_cons.mpr ⟨rK720, List.forall_mem_cons.mpr ⟨rK721, List.forall_mem_cons.mpr ⟨rK722, List.forall_mem_cons.mpr ⟨rK723, List.forall_mem_cons.mpr ⟨rK724, List.forall_mem_cons.mpr ⟨rK725, List.forall_mem_cons.mpr ⟨rK726, List.forall_mem_cons.mpr ⟨rK727, List.forall_mem_cons.mpr ⟨rK728, List.forall_mem_cons.mpr ⟨rK729, List.forall_mem_cons.mpr ⟨rK730, List.forall_mem_cons.mpr ⟨rK731, List.forall_mem_cons.mpr ⟨rK732, fun _ h => absurd h List.not_mem_nil⟩⟩⟩⟩⟩⟩⟩⟩⟩⟩⟩⟩⟩⟩⟩⟩⟩⟩⟩⟩⟩⟩⟩⟩⟩⟩⟩⟩
