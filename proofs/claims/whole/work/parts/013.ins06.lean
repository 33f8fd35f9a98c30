theorem rK769 : (List.range (rYs 769)).all (re_ckI (rYb 769) (rIns 769)) = true := by decide +kernel
theorem rK770 : (List.range (rYs 770)).all (re_ckI (rYb 770) (rIns 770)) = true := by decide +kernel
theorem rK771 : (List.range (rYs 771)).all (re_ckI (rYb 771) (rIns 771)) = true := by decide +kernel
theorem rK772 : (List.range (rYs 772)).all (re_ckI (rYb 772) (rIns 772)) = true := by decide +kernel
theorem rK773 : (List.range (rYs 773)).all (re_ckI (rYb 773) (rIns 773)) = true := by decide +kernel
theorem rK774 : (List.range (rYs 774)).all (re_ckI (rYb 774) (rIns 774)) = true := by decide +kernel
theorem rK775 : (List.range (rYs 775)).all (re_ckI (rYb 775) (rIns 775)) = true := by decide +kernel
theorem rK776 : (List.range (rYs 776)).all (re_ckI (rYb 776) (rIns 776)) = true := by decide +kernel
theorem rK777 : (List.range (rYs 777)).all (re_ckI (rYb 777) (rIns 777)) = true := by decide +kernel
theorem rK778 : (List.range (rYs 778)).all (re_ckI (rYb 778) (rIns 778)) = true := by decide +kernel
theorem rK779 : (List.range (rYs 779)).all (re_ckI (rYb 779) (rIns 779)) = true := by decide +kernel
theorem rK780 : (List.range (rYs 780)).all (re_ckI (rYb 780) (rIns 780)) = true := by decide +kernel
theorem rK781 : (List.range (rYs 781)).all (re_ckI (rYb 781) (rIns 781)) = true := by decide +kernel
theorem rK782 : (List.range (rYs 782)).all (re_ckI (rYb 782) (rIns 782)) = true := by decide +kernel
theorem rK783 : (List.range (rYs 783)).all (re_ckI (rYb 783) (rIns 783)) = true := by decide +kernel
theorem rK784 : (List.range (rYs 784)).all (re_ckI (rYb 784) (rIns 784)) = true := by decide +kernel
theorem rK785 : (List.range (rYs 785)).all (re_ckI (rYb 785) (rIns 785)) = true := by decide +kernel
theorem rK786 : (List.range (rYs 786)).all (re_ckI (rYb 786) (rIns 786)) = true := by decide +kernel
theorem rK787 : (List.range (rYs 787)).all (re_ckI (rYb 787) (rIns 787)) = true := by decide +kernel
theorem rK788 : (List.range (rYs 788)).all (re_ckI (rYb 788) (rIns 788)) = true := by decide +kernel
theorem rK789 : (List.range (rYs 789)).all (re_ckI (rYb 789) (rIns 789)) = true := by decide +kernel
theorem rK790 : (List.range (rYs 790)).all (re_ckI (rYb 790) (rIns 790)) = true := by decide +kernel
theorem rK791 : (List.range (rYs 791)).all (re_ckI (rYb 791) (rIns 791)) = true := by decide +kernel
theorem rK792 : (List.range (rYs 792)).all (re_ckI (rYb 792) (rIns 792)) = true := by decide +kernel
theorem rK793 : (List.range (rYs 793)).all (re_ckI (rYb 793) (rIns 793)) = true := by decide +kernel
theorem rK794 : (List.range (rYs 794)).all (re_ckI (rYb 794) (rIns 794)) = true := by decide +kernel
theorem rK795 : (List.range (rYs 795)).all (re_ckI (rYb 795) (rIns 795)) = true := by decide +kernel
theorem rK796_0 : (List.range 50).all (fun k => re_ckI (rYb 796) (rIns 796) (k + 50 * 0)) = true := by decide +kernel
theorem rK796_1 : (List.range 50).all (fun k => re_ckI (rYb 796) (rIns 796) (k + 50 * 1)) = true := by decide +kernel
theorem rK796_2 : (List.range 50).all (fun k => re_ckI (rYb 796) (rIns 796) (k + 50 * 2)) = true := by decide +kernel
theorem rK796_3 : (List.range 50).all (fun k => re_ckI (rYb 796) (rIns 796) (k + 50 * 3)) = true := by decide +kernel
theorem rK796_4 : (List.range 50).all (fun k => re_ckI (rYb 796) (rIns 796) (k + 50 * 4)) = true := by decide +kernel
theorem rK796_5 : (List.range 50).all (fun k => re_ckI (rYb 796) (rIns 796) (k + 50 * 5)) = true := by decide +kernel
theorem rK796_6 : (List.range 50).all (fun k => re_ckI (rYb 796) (rIns 796) (k + 50 * 6)) = true := by decide +kernel
theorem rK796_7 : (List.range 50).all (fun k => re_ckI (rYb 796) (rIns 796) (k + 50 * 7)) = true := by decide +kernel
theorem rK796_8 : (List.range 50).all (fun k => re_ckI (rYb 796) (rIns 796) (k + 50 * 8)) = true := by decide +kernel
theorem rK796 : (List.range (rYs 796)).all (re_ckI (rYb 796) (rIns 796)) = true := re_big (m := 9) (by decide +kernel) (fun i hi => match i, hi with
  | 0, _ => rK796_0
  | 1, _ => rK796_1
  | 2, _ => rK796_2
  | 3, _ => rK796_3
  | 4, _ => rK796_4
  | 5, _ => rK796_5
  | 6, _ => rK796_6
  | 7, _ => rK796_7
  | 8, _ => rK796_8
  | i + 9, h => absurd h (by omega))
def rIdl6 : List Nat := [769, 770, 771, 772, 773, 774, 775, 776, 777, 778, 779, 780, 781, 782, 783, 784, 785, 786, 787, 788, 789, 790, 791, 792, 793, 794, 795, 796]
theorem rKl6 : ∀ y ∈ rIdl6, (List.range (rYs y)).all (re_ckI (rYb y) (rIns y)) = true := List.forall_mem_cons.mpr ⟨rK769, List.forall_mem_cons.mpr ⟨rK770, List.forall_mem_cons.mpr ⟨rK771, List.forall_mem_cons.mpr ⟨rK772, List.forall_mem_cons.mpr ⟨rK773, List.forall_mem_cons.mpr ⟨rK774, List.forall_mem_cons.mpr ⟨rK775, List.forall_mem_cons.mpr ⟨rK776, List.forall_mem_cons.mpr ⟨rK777, List.forall_mem_cons.mpr ⟨rK778, List.forall_mem_cons.mpr ⟨rK779, List.forall_mem_cons.mpr ⟨rK780, List.forall_mem_cons.mpr ⟨rK781, List.forall_mem_cons.mpr ⟨rK782, List.forall_mem_cons.mpr ⟨rK783, List.forall_mem_cons.mpr ⟨rK784, List.forall_mem_cons.mpr ⟨rK785, List.forall_mem_cons.mpr ⟨rK786, List.forall_mem_cons.mpr ⟨rK787, List.forall_mem_cons.mpr ⟨rK788, List.forall_mem_cons.mpr ⟨rK789, List.forall_mem_cons.mpr ⟨rK790, List.forall_mem_cons.mpr ⟨rK791, List.forall_mem_cons.mpr ⟨rK792, List.forall_mem_cons.mpr ⟨rK793, List.forall_mem_cons.mpr ⟨rK794, List.forall_mem_cons.mpr ⟨rK795, List.forall_mem_cons.mpr ⟨rK796, fun _ h => absurd h List.not_mem_nil⟩⟩⟩⟩⟩⟩⟩⟩⟩⟩⟩⟩⟩⟩⟩⟩⟩⟩⟩⟩⟩⟩⟩⟩⟩⟩⟩⟩
