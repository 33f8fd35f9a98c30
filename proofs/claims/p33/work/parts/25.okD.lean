theorem re_okM_ok {y : Nat} (hy : y ∈ rIdm) : re_okM rN rG y (rYa y) := by
  have hk := rMall y hy
  unfold rckM at hk
  simp only [Bool.and_eq_true, decide_eq_true_eq] at hk
  obtain ⟨h1, h2, h3, h4, h5, h6⟩ := hk
  exact ⟨re_wat_ok h1, re_wat_ok h2, h3, h4, h5, h6⟩
def rckK (c idx : Nat) : Bool := match rCa c idx with
  | none => true
  | some (k, y', na) => match rCw c idx with
    | none => false
    | some (w1, w2, w3) => if k = 3 then re_wat w1 (.methodLink (rCn c) idx Lib.objectInit) && (re_wat rObjAt.1 (.instanceMethod Lib.objectInit) && re_wat rObjAt.2 (.code Lib.objectInit ⟨#[0xb1]⟩ 1 none))
      else decide (y' ∈ rIdm) && (decide (na = rYa y') && (decide (k < 9) && (decide (k = 0 ∨ k = 1 ∨ k = 2 ∨ k = 8 → re_wat w1 (.methodLink (rCn c) idx (rYn y')) = true) && (decide (k = 4 ∨ k = 5 ∨ k = 6 → (match rTW[w1]? with
        | some (.methodLinkNest a i x z) => decide (a = rCn c) && (decide (i = idx) && decide (x = rYn y'))
        | _ => false) = true) && (decide (k = 0 ∨ k = 4 ∨ k = 8 → re_wat w2 (.static (rYn y')) = true) && (decide (k = 1 ∨ k = 2 ∨ k = 5 ∨ k = 6 → re_wat w2 (.instanceMethod (rYn y')) = true) && (decide (k = 1 ∨ k = 5 → (re_wat w3 (.selects (rYn y').cls (rYn y') (rYn y')) && (match rCl[rYc y']? with
        | some r => decide (r.1 = (rYn y').cls)
        | none => false)) = true) && (decide (k = 2 ∨ k = 6 → (rYn y').name = "<init>" ∧ rYr y' = none) && (decide (¬ k = 8 → rHh y' = []) && decide (k = 8 → ¬ rHh y' = []))))))))))
theorem rckK_0 : re_two rckK 0 = true := by decide +kernel
theorem rckK_1 : re_two rckK 1 = true := by decide +kernel
theorem rckK_2 : re_two rckK 2 = true := by decide +kernel
theorem rckK_3 : re_two rckK 3 = true := by decide +kernel
theorem rckK_4 : re_two rckK 4 = true := by decide +kernel
theorem rckK_5 : re_two rckK 5 = true := by decide +kernel
theorem rckK_6 : re_two rckK 6 = true := by decide +kernel
theorem rckK_7 : re_two rckK 7 = true := by decide +kernel
theorem rckK_8 : re_two rckK 8 = true := by decide +kernel
theorem rckK_9 : re_two rckK 9 = true := by decide +kernel
theorem rckK_10 : re_two rckK 10 = true := by decide +kernel
theorem rckK_11 : re_two rckK 11 = true := by decide +kernel
theorem rckK_12 : re_two rckK 12 = true := by decide +kernel
theorem rckK_13 : re_two rckK 13 = true := by decide +kernel
theorem rckK_14 : re_two rckK 14 = true := by decide +kernel
theorem rckK_15 : re_two rckK 15 = true := by decide +kernel
theorem rckK_16 : re_two rckK 16 = true := by decide +kernel
theorem rckK_17 : re_two rckK 17 = true := by decide +kernel
theorem rckK_18 : re_two rckK 18 = true := by decide +kernel
theorem rckK_19 : re_two rckK 19 = true := by decide +kernel
theorem rckK_20 : re_two rckK 20 = true := by decide +kernel
theorem rckK_21 : re_two rckK 21 = true := by decide +kernel
theorem rckK_all : (List.range 22).all (re_two rckK) = true := by
  rw [show List.range 22 = [0, 1, 2, 3, 4, 5, 6, 7, 8, 9, 10, 11, 12, 13, 14, 15, 16, 17, 18, 19, 20, 21] from rfl]
  simp only [List.all_cons, List.all_nil, Bool.and_true, rckK_0, rckK_1, rckK_2, rckK_3, rckK_4, rckK_5, rckK_6, rckK_7, rckK_8, rckK_9, rckK_10, rckK_11, rckK_12, rckK_13, rckK_14, rckK_15, rckK_16, rckK_17, rckK_18, rckK_19, rckK_20, rckK_21]
theorem re_o7 : ∀ y idx k y' na, re_cl rG y idx = some (k, y', na) → re_okC rN rG y idx k y' na := by
  intro y idx k y' na h
  have h : rCa (Nat.div y 64) idx = some (k, y', na) := h
  have hk : rckK (Nat.div y 64) idx = true := re_two_ok rckK_all (re_cond (by unfold rCa at h; exact h))
  unfold rckK at hk
  rw [h] at hk
  dsimp only at hk
  split at hk
  next => cases hk
  next w1 w2 w3 hw =>
  split at hk
  next h3 =>
    subst h3
    simp only [Bool.and_eq_true] at hk
    exact ⟨fun _ => ⟨by show Cond.methodLink (rYn y).cls _ _ ∈ _; rw [re_cls_eq]; exact re_wat_ok hk.1, re_wat_ok hk.2.1, re_wat_ok hk.2.2⟩, fun z => absurd rfl z, fun z => by omega, fun z => by omega, fun z => by omega, fun z => by omega, fun z => by omega, fun z => by omega, fun z => absurd rfl z, fun z => by omega⟩
  next h3 =>
    simp only [Bool.and_eq_true, decide_eq_true_eq] at hk
    obtain ⟨k1, k2, k3, k4, k5, k6, k7, k8, k9, k10, k11⟩ := hk
    refine ⟨fun z => absurd z h3, fun _ => by rw [k2]; exact re_okM_ok k1, fun z => ?_, fun z => ?_, fun z => re_wat_ok (k6 z), fun z => re_wat_ok (k7 z), fun z => ?_, fun z => k9 z, fun _ z => k10 z, fun z => k11 z⟩
    · show Cond.methodLink (rYn y).cls _ _ ∈ _
      rw [re_cls_eq]
      exact re_wat_ok (k4 z)
    · have k5 := k5 z
      split at k5
      next a i x z9 hz =>
        simp only [Bool.and_eq_true, decide_eq_true_eq] at k5
        obtain ⟨e1, e2, e3⟩ := k5
        refine ⟨z9, ?_⟩
        show Cond.methodLinkNest (rYn y).cls _ (rYn y') _ ∈ rTW ++ rTWd
        rw [re_cls_eq, ← e1, ← e2, ← e3]
        exact List.mem_append_left _ (List.mem_of_getElem? hz)
      next => cases k5
    · obtain ⟨q1, q2⟩ := k8 z
      refine ⟨re_wat_ok q1, ?_⟩
      split at q2
      next r hr => exact ⟨r, hr, of_decide_eq_true q2⟩
      next => cases q2
def rckW (c idx : Nat) : Bool := match rNw c idx with
  | none => true
  | some d => match rCl[d.1]?, rNv c idx with
    | some r, some (w1, w2, w3) => re_wat w1 (.classLink (rCn c) idx r.1) && (re_wat w2 (.instantiable r.1 r.2.2) && (re_wat w3 (.initialized r.1) && (decide (d.2.length = r.2.2) && (d.2.all (fun v => decide (v = .null ∨ v = .int 0 ∨ v = .long 0)) && (List.range r.2.2).all (fun j => match parseFieldDescriptor (r.2.1 j).2.2.1 with
      | some t => decide (defaultValue t = vp_V d.2 j)
      | none => false)))))
    | _, _ => false
theorem rckW_0 : re_two rckW 0 = true := by decide +kernel
theorem rckW_1 : re_two rckW 1 = true := by decide +kernel
theorem rckW_2 : re_two rckW 2 = true := by decide +kernel
theorem rckW_3 : re_two rckW 3 = true := by decide +kernel
theorem rckW_4 : re_two rckW 4 = true := by decide +kernel
theorem rckW_5 : re_two rckW 5 = true := by decide +kernel
theorem rckW_6 : re_two rckW 6 = true := by decide +kernel
theorem rckW_7 : re_two rckW 7 = true := by decide +kernel
theorem rckW_8 : re_two rckW 8 = true := by decide +kernel
theorem rckW_9 : re_two rckW 9 = true := by decide +kernel
theorem rckW_10 : re_two rckW 10 = true := by decide +kernel
theorem rckW_11 : re_two rckW 11 = true := by decide +kernel
theorem rckW_12 : re_two rckW 12 = true := by decide +kernel
theorem rckW_13 : re_two rckW 13 = true := by decide +kernel
theorem rckW_14 : re_two rckW 14 = true := by decide +kernel
theorem rckW_15 : re_two rckW 15 = true := by decide +kernel
theorem rckW_16 : re_two rckW 16 = true := by decide +kernel
theorem rckW_17 : re_two rckW 17 = true := by decide +kernel
theorem rckW_18 : re_two rckW 18 = true := by decide +kernel
theorem rckW_19 : re_two rckW 19 = true := by decide +kernel
theorem rckW_20 : re_two rckW 20 = true := by decide +kernel
theorem rckW_21 : re_two rckW 21 = true := by decide +kernel
theorem rckW_all : (List.range 22).all (re_two rckW) = true := by
  rw [show List.range 22 = [0, 1, 2, 3, 4, 5, 6, 7, 8, 9, 10, 11, 12, 13, 14, 15, 16, 17, 18, 19, 20, 21] from rfl]
  simp only [List.all_cons, List.all_nil, Bool.and_true, rckW_0, rckW_1, rckW_2, rckW_3, rckW_4, rckW_5, rckW_6, rckW_7, rckW_8, rckW_9, rckW_10, rckW_11, rckW_12, rckW_13, rckW_14, rckW_15, rckW_16, rckW_17, rckW_18, rckW_19, rckW_20, rckW_21]
theorem re_o8 : ∀ y idx d, re_nw rG y idx = some d → re_okW rN y idx d := by
  intro y idx d h hd
  have h : rNw (Nat.div y 64) idx = some d := h
  have hk : rckW (Nat.div y 64) idx = true := re_two_ok rckW_all (re_cond (by unfold rNw at h; exact h))
  unfold rckW at hk
  rw [h] at hk
  dsimp only at hk
  split at hk
  next r w1 w2 w3 hr hw =>
    simp only [Bool.and_eq_true, decide_eq_true_eq] at hk
    obtain ⟨k1, k2, k3, k4, k5, k6⟩ := hk
    refine ⟨r, hr, by show Cond.classLink (rYn y).cls _ _ ∈ _; rw [re_cls_eq]; exact re_wat_ok k1, re_wat_ok k2, re_wat_ok k3, k4, fun v hv => of_decide_eq_true (List.all_eq_true.mp k5 v hv), fun ty hty j hj => ?_⟩
    have k7 := re_rng k6 hj
    rw [hty j hj] at k7
    exact of_decide_eq_true k7
  next => cases hk
def rckA (c idx : Nat) : Bool := match rAn c idx with
  | none => true
  | some j => match rE j, rAw c idx with
    | .object C, some w => Nat.ble 3 j && (Nat.blt j (re_nE rG) && re_wat w (.classLink (rCn c) idx C))
    | _, _ => false
theorem rckA_0 : re_two rckA 0 = true := by decide +kernel
theorem rckA_1 : re_two rckA 1 = true := by decide +kernel
theorem rckA_2 : re_two rckA 2 = true := by decide +kernel
theorem rckA_3 : re_two rckA 3 = true := by decide +kernel
theorem rckA_4 : re_two rckA 4 = true := by decide +kernel
theorem rckA_5 : re_two rckA 5 = true := by decide +kernel
theorem rckA_6 : re_two rckA 6 = true := by decide +kernel
theorem rckA_7 : re_two rckA 7 = true := by decide +kernel
theorem rckA_8 : re_two rckA 8 = true := by decide +kernel
theorem rckA_9 : re_two rckA 9 = true := by decide +kernel
theorem rckA_10 : re_two rckA 10 = true := by decide +kernel
theorem rckA_11 : re_two rckA 11 = true := by decide +kernel
theorem rckA_12 : re_two rckA 12 = true := by decide +kernel
theorem rckA_13 : re_two rckA 13 = true := by decide +kernel
theorem rckA_14 : re_two rckA 14 = true := by decide +kernel
theorem rckA_15 : re_two rckA 15 = true := by decide +kernel
theorem rckA_16 : re_two rckA 16 = true := by decide +kernel
theorem rckA_17 : re_two rckA 17 = true := by decide +kernel
theorem rckA_18 : re_two rckA 18 = true := by decide +kernel
theorem rckA_19 : re_two rckA 19 = true := by decide +kernel
theorem rckA_20 : re_two rckA 20 = true := by decide +kernel
theorem rckA_21 : re_two rckA 21 = true := by decide +kernel
theorem rckA_all : (List.range 22).all (re_two rckA) = true := by
  rw [show List.range 22 = [0, 1, 2, 3, 4, 5, 6, 7, 8, 9, 10, 11, 12, 13, 14, 15, 16, 17, 18, 19, 20, 21] from rfl]
  simp only [List.all_cons, List.all_nil, Bool.and_true, rckA_0, rckA_1, rckA_2, rckA_3, rckA_4, rckA_5, rckA_6, rckA_7, rckA_8, rckA_9, rckA_10, rckA_11, rckA_12, rckA_13, rckA_14, rckA_15, rckA_16, rckA_17, rckA_18, rckA_19, rckA_20, rckA_21]
theorem re_o9 : ∀ y idx j, re_an rG y idx = some j → 3 ≤ j ∧ j < re_nE rG ∧ ∃ C, re_E rN j = .object C ∧ Cond.classLink (re_yn rN y).cls idx C ∈ re_B rN := by
  intro y idx j h
  have h : rAn (Nat.div y 64) idx = some j := h
  have hk : rckA (Nat.div y 64) idx = true := re_two_ok rckA_all (re_cond (by unfold rAn at h; exact h))
  unfold rckA at hk
  rw [h] at hk
  dsimp only at hk
  split at hk
  next C w hC hw =>
    simp only [Bool.and_eq_true] at hk
    exact ⟨Nat.le_of_ble_eq_true hk.1, re_blt_lt hk.2.1, C, hC, by show Cond.classLink (rYn y).cls _ _ ∈ _; rw [re_cls_eq]; exact re_wat_ok hk.2.2⟩
  next => cases hk
theorem re_o10 : Cond.arrayClass .int ∈ re_B rN ∧ Cond.arrayClass .long ∈ re_B rN ∧ Cond.arrayClass .boolean ∈ re_B rN :=
  ⟨re_wat_ok (i := rArrAt.getD 0 0) (by decide +kernel), re_wat_ok (i := rArrAt.getD 1 0) (by decide +kernel), re_wat_ok (i := rArrAt.getD 2 0) (by decide +kernel)⟩
def rckV (c idx : Nat) : Bool := match rKs c idx with
  | none => true
  | some v => match v with
    | .int x => match rKw c idx with
      | some w => re_wat w (.constant (rCn c) idx x)
      | none => false
    | .long x => match rKw c idx with
      | some w => re_wat w (.constantLong (rCn c) idx x)
      | none => false
    | _ => false
theorem rckV_0 : re_two rckV 0 = true := by decide +kernel
theorem rckV_1 : re_two rckV 1 = true := by decide +kernel
theorem rckV_2 : re_two rckV 2 = true := by decide +kernel
theorem rckV_3 : re_two rckV 3 = true := by decide +kernel
theorem rckV_4 : re_two rckV 4 = true := by decide +kernel
theorem rckV_5 : re_two rckV 5 = true := by decide +kernel
theorem rckV_6 : re_two rckV 6 = true := by decide +kernel
theorem rckV_7 : re_two rckV 7 = true := by decide +kernel
theorem rckV_8 : re_two rckV 8 = true := by decide +kernel
theorem rckV_9 : re_two rckV 9 = true := by decide +kernel
theorem rckV_10 : re_two rckV 10 = true := by decide +kernel
theorem rckV_11 : re_two rckV 11 = true := by decide +kernel
theorem rckV_12 : re_two rckV 12 = true := by decide +kernel
theorem rckV_13 : re_two rckV 13 = true := by decide +kernel
theorem rckV_14 : re_two rckV 14 = true := by decide +kernel
theorem rckV_15 : re_two rckV 15 = true := by decide +kernel
theorem rckV_16 : re_two rckV 16 = true := by decide +kernel
theorem rckV_17 : re_two rckV 17 = true := by decide +kernel
theorem rckV_18 : re_two rckV 18 = true := by decide +kernel
theorem rckV_19 : re_two rckV 19 = true := by decide +kernel
theorem rckV_20 : re_two rckV 20 = true := by decide +kernel
theorem rckV_21 : re_two rckV 21 = true := by decide +kernel
theorem rckV_all : (List.range 22).all (re_two rckV) = true := by
  rw [show List.range 22 = [0, 1, 2, 3, 4, 5, 6, 7, 8, 9, 10, 11, 12, 13, 14, 15, 16, 17, 18, 19, 20, 21] from rfl]
  simp only [List.all_cons, List.all_nil, Bool.and_true, rckV_0, rckV_1, rckV_2, rckV_3, rckV_4, rckV_5, rckV_6, rckV_7, rckV_8, rckV_9, rckV_10, rckV_11, rckV_12, rckV_13, rckV_14, rckV_15, rckV_16, rckV_17, rckV_18, rckV_19, rckV_20, rckV_21]
theorem re_o11 : ∀ y idx v, re_ks rG y idx = some v → re_okK rN y idx v := by
  intro y idx v h
  have h : rKs (Nat.div y 64) idx = some v := h
  have hk : rckV (Nat.div y 64) idx = true := re_two_ok rckV_all (re_cond (by unfold rKs at h; exact h))
  unfold rckV at hk
  rw [h] at hk
  dsimp only at hk
  split at hk
  next x =>
    split at hk
    next w hw => exact ⟨fun x9 e => (by cases e; show Cond.constant (rYn y).cls _ _ ∈ _; rw [re_cls_eq]; exact re_wat_ok hk), fun x9 e => (by cases e)⟩
    next => cases hk
  next x =>
    split at hk
    next w hw => exact ⟨fun x9 e => (by cases e), fun x9 e => by cases e; show Cond.constantLong (rYn y).cls _ _ ∈ _; rw [re_cls_eq]; exact re_wat_ok hk⟩
    next => cases hk
  next => cases hk
