theorem rK834 : (List.range (rYs 834)).all (re_ckI (rYb 834) (rIns 834)) = true := by decide +kernel
theorem rK835 : (List.range (rYs 835)).all (re_ckI (rYb 835) (rIns 835)) = true := by decide +kernel
theorem rK836 : (List.range (rYs 836)).all (re_ckI (rYb 836) (rIns 836)) = true := by decide +kernel
theorem rK837 : (List.range (rYs 837)).all (re_ckI (rYb 837) (rIns 837)) = true := by decide +kernel
theorem rK838 : (List.range (rYs 838)).all (re_ckI (rYb 838) (rIns 838)) = true := by decide +kernel
theorem rK839 : (List.range (rYs 839)).all (re_ckI (rYb 839) (rIns 839)) = true := by decide +kernel
theorem rK840 : (List.range (rYs 840)).all (re_ckI (rYb 840) (rIns 840)) = true := by decide +kernel
theorem rK841 : (List.range (rYs 841)).all (re_ckI (rYb 841) (rIns 841)) = true := by decide +kernel
theorem rK842 : (List.range (rYs 842)).all (re_ckI (rYb 842) (rIns 842)) = true := by decide +kernel
theorem rK843 : (List.range (rYs 843)).all (re_ckI (rYb 843) (rIns 843)) = true := by decide +kernel
theorem rK844 : (List.range (rYs 844)).all (re_ckI (rYb 844) (rIns 844)) = true := by decide +kernel
theorem rK845 : (List.range (rYs 845)).all (re_ckI (rYb 845) (rIns 845)) = true := by decide +kernel
theorem rK846 : (List.range (rYs 846)).all (re_ckI (rYb 846) (rIns 846)) = true := by decide +kernel
theorem rK847 : (List.range (rYs 847)).all (re_ckI (rYb 847) (rIns 847)) = true := by decide +kernel
theorem rK848 : (List.range (rYs 848)).all (re_ckI (rYb 848) (rIns 848)) = true := by decide +kernel
def rIdl8 : List Nat := [834, 835, 836, 837, 838, 839, 840, 841, 842, 843, 844, 845, 846, 847, 848]
theorem rKl8 : ∀ y ∈ rIdl8, (List.range (rYs y)).all (re_ckI (rYb y) (rIns y)) = true := List.forall_mem_cons.mpr ⟨rK834, List.forall_mem_cons.mpr ⟨rK835, List.forall_mem_cons.mpr ⟨rK836, List.forall_mem_cons.mpr ⟨rK837, List.forall_mem_cons.mpr ⟨rK838, List.forall_mem_cons.mpr ⟨rK839, List.forall_mem_cons.mpr ⟨rK840, List.forall_mem_cons.mpr ⟨rK841, List.forall_mem_cons.mpr ⟨rK842, List.forall_mem_cons.mpr ⟨rK843, List.forall_mem_cons.mpr ⟨rK844, List.forall_mem_cons.mpr ⟨rK845, List.forall_mem_cons.mpr ⟨rK846, List.forall_mem_cons.mpr ⟨rK847, List.forall_mem_cons.mpr ⟨rK848, fun _ h => absurd h List.not_mem_nil⟩⟩⟩⟩⟩⟩⟩⟩⟩⟩⟩⟩⟩⟩⟩
