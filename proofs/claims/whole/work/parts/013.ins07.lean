theorem rK797 : (List.range (rYs 797)).all (re_ckI (rYb 797) (rIns 797)) = true := by decide +kernel
theorem rK798 : (List.range (rYs 798)).all (re_ckI (rYb 798) (rIns 798)) = true := by decide +kernel
theorem rK799 : (List.range (rYs 799)).all (re_ckI (rYb 799) (rIns 799)) = true := by decide +kernel
theorem rK800 : (List.range (rYs 800)).all (re_ckI (rYb 800) (rIns 800)) = true := by decide +kernel
theorem rK801 : (List.range (rYs 801)).all (re_ckI (rYb 801) (rIns 801)) = true := by decide +kernel
theorem rK802 : (List.range (rYs 802)).all (re_ckI (rYb 802) (rIns 802)) = true := by decide +kernel
theorem rK803 : (List.range (rYs 803)).all (re_ckI (rYb 803) (rIns 803)) = true := by decide +kernel
theorem rK804 : (List.range (rYs 804)).all (re_ckI (rYb 804) (rIns 804)) = true := by decide +kernel
theorem rK805 : (List.range (rYs 805)).all (re_ckI (rYb 805) (rIns 805)) = true := by decide +kernel
theorem rK806 : (List.range (rYs 806)).all (re_ckI (rYb 806) (rIns 806)) = true := by decide +kernel
theorem rK807 : (List.range (rYs 807)).all (re_ckI (rYb 807) (rIns 807)) = true := by decide +kernel
theorem rK808 : (List.range (rYs 808)).all (re_ckI (rYb 808) (rIns 808)) = true := by decide +kernel
theorem rK809 : (List.range (rYs 809)).all (re_ckI (rYb 809) (rIns 809)) = true := by decide +kernel
theorem rK810 : (List.range (rYs 810)).all (re_ckI (rYb 810) (rIns 810)) = true := by decide +kernel
theorem rK811 : (List.range (rYs 811)).all (re_ckI (rYb 811) (rIns 811)) = true := by decide +kernel
theorem rK812 : (List.range (rYs 812)).all (re_ckI (rYb 812) (rIns 812)) = true := by decide +kernel
theorem rK813 : (List.range (rYs 813)).all (re_ckI (rYb 813) (rIns 813)) = true := by decide +kernel
theorem rK814 : (List.range (rYs 814)).all (re_ckI (rYb 814) (rIns 814)) = true := by decide +kernel
theorem rK815 : (List.range (rYs 815)).all (re_ckI (rYb 815) (rIns 815)) = true := by decide +kernel
theorem rK816 : (List.range (rYs 816)).all (re_ckI (rYb 816) (rIns 816)) = true := by decide +kernel
theorem rK817 : (List.range (rYs 817)).all (re_ckI (rYb 817) (rIns 817)) = true := by decide +kernel
theorem rK818 : (List.range (rYs 818)).all (re_ckI (rYb 818) (rIns 818)) = true := by decide +kernel
theorem rK832 : (List.range (rYs 832)).all (re_ckI (rYb 832) (rIns 832)) = true := by decide +kernel
theorem rK833 : (List.range (rYs 833)).all (re_ckI (rYb 833) (rIns 833)) = true := by decide +kernel
def rIdl7 : List Nat := [797, 798, 799, 800, 801, 802, 803, 804, 805, 806, 807, 808, 809, 810, 811, 812, 813, 814, 815, 816, 817, 818, 832, 833]
theorem rKl7 : ∀ y ∈ rIdl7, (List.range (rYs y)).all (re_ckI (rYb y) (rIns y)) = true := List.forall_mem_cons.mpr ⟨rK797, List.forall_mem_cons.mpr ⟨rK798, List.forall_mem_cons.mpr ⟨rK799, List.forall_mem_cons.mpr ⟨rK800, List.forall_mem_cons.mpr ⟨rK801, List.forall_mem_cons.mpr ⟨rK802, List.forall_mem_cons.mpr ⟨rK803, List.forall_mem_cons.mpr ⟨rK804, List.forall_mem_cons.mpr ⟨rK805, List.forall_mem_cons.mpr ⟨rK806, List.forall_mem_cons.mpr ⟨rK807, List.forall_mem_cons.mpr ⟨rK808, List.forall_mem_cons.mpr ⟨rK809, List.forall_mem_cons.mpr ⟨rK810, List.forall_mem_cons.mpr ⟨rK811, List.forall_mem_cons.mpr ⟨rK812, List.forall_mem_cons.mpr ⟨rK813, List.forall_mem_cons.mpr ⟨rK814, List.forall_mem_cons.mpr ⟨rK815, List.forall_mem_cons.mpr ⟨rK816, List.forall_mem_cons.mpr ⟨rK817, List.forall_mem_cons.mpr ⟨rK818, List.forall_mem_cons.mpr ⟨rK832, List.forall_mem_cons.mpr ⟨rK833, fun _ h => absurd h List.not_mem_nil⟩⟩⟩⟩⟩⟩⟩⟩⟩⟩⟩⟩⟩⟩⟩⟩⟩⟩⟩⟩⟩⟩⟩⟩
