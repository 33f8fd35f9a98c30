/-! The tables are right: checks by evaluation. -/
def re_wat (i : Nat) (w : Cond) : Bool := decide (lw_tbl[i]? = some w) && goodWord w
theorem re_wat_ok {i : Nat} {w : Cond} (h : re_wat i w = true) : w ∈ lw_tbl.filter goodWord := by
  unfold re_wat at h
  simp only [Bool.and_eq_true, decide_eq_true_eq] at h
  exact List.mem_filter.mpr ⟨List.mem_of_getElem? h.1, h.2⟩
theorem re_blt_ge {a b : Nat} (h : b ≤ a) : Nat.blt a b = false := by
  cases hz : Nat.blt a b with
  | false => rfl
  | true => exact absurd (Nat.le_of_ble_eq_true hz) (by omega)
theorem re_blt_lt {a b : Nat} (h : Nat.blt a b = true) : a < b := Nat.le_of_ble_eq_true h
theorem re_sz_0 : (List.range 50).all (fun k => (fun y => rIds.contains y || Nat.beq (rYs y) 0) (k + 50 * 0)) = true := by decide +kernel
theorem re_sz_1 : (List.range 50).all (fun k => (fun y => rIds.contains y || Nat.beq (rYs y) 0) (k + 50 * 1)) = true := by decide +kernel
theorem re_sz_2 : (List.range 50).all (fun k => (fun y => rIds.contains y || Nat.beq (rYs y) 0) (k + 50 * 2)) = true := by decide +kernel
theorem re_sz_3 : (List.range 50).all (fun k => (fun y => rIds.contains y || Nat.beq (rYs y) 0) (k + 50 * 3)) = true := by decide +kernel
theorem re_sz_4 : (List.range 50).all (fun k => (fun y => rIds.contains y || Nat.beq (rYs y) 0) (k + 50 * 4)) = true := by decide +kernel
theorem re_sz_5 : (List.range 50).all (fun k => (fun y => rIds.contains y || Nat.beq (rYs y) 0) (k + 50 * 5)) = true := by decide +kernel
theorem re_sz_6 : (List.range 50).all (fun k => (fun y => rIds.contains y || Nat.beq (rYs y) 0) (k + 50 * 6)) = true := by decide +kernel
theorem re_sz_7 : (List.range 50).all (fun k => (fun y => rIds.contains y || Nat.beq (rYs y) 0) (k + 50 * 7)) = true := by decide +kernel
theorem re_sz_8 : (List.range 50).all (fun k => (fun y => rIds.contains y || Nat.beq (rYs y) 0) (k + 50 * 8)) = true := by decide +kernel
theorem re_sz_9 : (List.range 50).all (fun k => (fun y => rIds.contains y || Nat.beq (rYs y) 0) (k + 50 * 9)) = true := by decide +kernel
theorem re_sz_10 : (List.range 50).all (fun k => (fun y => rIds.contains y || Nat.beq (rYs y) 0) (k + 50 * 10)) = true := by decide +kernel
theorem re_sz_11 : (List.range 50).all (fun k => (fun y => rIds.contains y || Nat.beq (rYs y) 0) (k + 50 * 11)) = true := by decide +kernel
theorem re_sz_12 : (List.range 50).all (fun k => (fun y => rIds.contains y || Nat.beq (rYs y) 0) (k + 50 * 12)) = true := by decide +kernel
theorem re_sz_13 : (List.range 50).all (fun k => (fun y => rIds.contains y || Nat.beq (rYs y) 0) (k + 50 * 13)) = true := by decide +kernel
theorem re_sz_14 : (List.range 50).all (fun k => (fun y => rIds.contains y || Nat.beq (rYs y) 0) (k + 50 * 14)) = true := by decide +kernel
theorem re_sz_15 : (List.range 50).all (fun k => (fun y => rIds.contains y || Nat.beq (rYs y) 0) (k + 50 * 15)) = true := by decide +kernel
theorem re_sz_16 : (List.range 50).all (fun k => (fun y => rIds.contains y || Nat.beq (rYs y) 0) (k + 50 * 16)) = true := by decide +kernel
theorem re_sz_17 : (List.range 50).all (fun k => (fun y => rIds.contains y || Nat.beq (rYs y) 0) (k + 50 * 17)) = true := by decide +kernel
theorem re_sz_18 : (List.range 50).all (fun k => (fun y => rIds.contains y || Nat.beq (rYs y) 0) (k + 50 * 18)) = true := by decide +kernel
theorem re_sz_19 : (List.range 50).all (fun k => (fun y => rIds.contains y || Nat.beq (rYs y) 0) (k + 50 * 19)) = true := by decide +kernel
theorem re_sz_20 : (List.range 50).all (fun k => (fun y => rIds.contains y || Nat.beq (rYs y) 0) (k + 50 * 20)) = true := by decide +kernel
theorem re_sz_21 : (List.range 50).all (fun k => (fun y => rIds.contains y || Nat.beq (rYs y) 0) (k + 50 * 21)) = true := by decide +kernel
theorem re_sz_22 : (List.range 50).all (fun k => (fun y => rIds.contains y || Nat.beq (rYs y) 0) (k + 50 * 22)) = true := by decide +kernel
theorem re_sz_23 : (List.range 50).all (fun k => (fun y => rIds.contains y || Nat.beq (rYs y) 0) (k + 50 * 23)) = true := by decide +kernel
theorem re_sz_24 : (List.range 50).all (fun k => (fun y => rIds.contains y || Nat.beq (rYs y) 0) (k + 50 * 24)) = true := by decide +kernel
theorem re_sz_25 : (List.range 50).all (fun k => (fun y => rIds.contains y || Nat.beq (rYs y) 0) (k + 50 * 25)) = true := by decide +kernel
theorem re_sz_26 : (List.range 50).all (fun k => (fun y => rIds.contains y || Nat.beq (rYs y) 0) (k + 50 * 26)) = true := by decide +kernel
theorem re_sz_27 : (List.range 50).all (fun k => (fun y => rIds.contains y || Nat.beq (rYs y) 0) (k + 50 * 27)) = true := by decide +kernel
theorem re_sz_28 : (List.range 50).all (fun k => (fun y => rIds.contains y || Nat.beq (rYs y) 0) (k + 50 * 28)) = true := by decide +kernel
theorem re_sz : (List.range 1408).all (fun y => rIds.contains y || Nat.beq (rYs y) 0) = true := re_big (m := 29) (by decide +kernel) (fun i hi => match i, hi with
  | 0, _ => re_sz_0
  | 1, _ => re_sz_1
  | 2, _ => re_sz_2
  | 3, _ => re_sz_3
  | 4, _ => re_sz_4
  | 5, _ => re_sz_5
  | 6, _ => re_sz_6
  | 7, _ => re_sz_7
  | 8, _ => re_sz_8
  | 9, _ => re_sz_9
  | 10, _ => re_sz_10
  | 11, _ => re_sz_11
  | 12, _ => re_sz_12
  | 13, _ => re_sz_13
  | 14, _ => re_sz_14
  | 15, _ => re_sz_15
  | 16, _ => re_sz_16
  | 17, _ => re_sz_17
  | 18, _ => re_sz_18
  | 19, _ => re_sz_19
  | 20, _ => re_sz_20
  | 21, _ => re_sz_21
  | 22, _ => re_sz_22
  | 23, _ => re_sz_23
  | 24, _ => re_sz_24
  | 25, _ => re_sz_25
  | 26, _ => re_sz_26
  | 27, _ => re_sz_27
  | 28, _ => re_sz_28
  | i + 29, h => absurd h (by omega))
theorem re_cls0_0 : (List.range 50).all (fun k => (fun y => decide ((rYn y).cls = rCn (Nat.div y 64))) (k + 50 * 0)) = true := by decide +kernel
theorem re_cls0_1 : (List.range 50).all (fun k => (fun y => decide ((rYn y).cls = rCn (Nat.div y 64))) (k + 50 * 1)) = true := by decide +kernel
theorem re_cls0_2 : (List.range 50).all (fun k => (fun y => decide ((rYn y).cls = rCn (Nat.div y 64))) (k + 50 * 2)) = true := by decide +kernel
theorem re_cls0_3 : (List.range 50).all (fun k => (fun y => decide ((rYn y).cls = rCn (Nat.div y 64))) (k + 50 * 3)) = true := by decide +kernel
theorem re_cls0_4 : (List.range 50).all (fun k => (fun y => decide ((rYn y).cls = rCn (Nat.div y 64))) (k + 50 * 4)) = true := by decide +kernel
theorem re_cls0_5 : (List.range 50).all (fun k => (fun y => decide ((rYn y).cls = rCn (Nat.div y 64))) (k + 50 * 5)) = true := by decide +kernel
theorem re_cls0_6 : (List.range 50).all (fun k => (fun y => decide ((rYn y).cls = rCn (Nat.div y 64))) (k + 50 * 6)) = true := by decide +kernel
theorem re_cls0_7 : (List.range 50).all (fun k => (fun y => decide ((rYn y).cls = rCn (Nat.div y 64))) (k + 50 * 7)) = true := by decide +kernel
theorem re_cls0_8 : (List.range 50).all (fun k => (fun y => decide ((rYn y).cls = rCn (Nat.div y 64))) (k + 50 * 8)) = true := by decide +kernel
theorem re_cls0_9 : (List.range 50).all (fun k => (fun y => decide ((rYn y).cls = rCn (Nat.div y 64))) (k + 50 * 9)) = true := by decide +kernel
theorem re_cls0_10 : (List.range 50).all (fun k => (fun y => decide ((rYn y).cls = rCn (Nat.div y 64))) (k + 50 * 10)) = true := by decide +kernel
theorem re_cls0_11 : (List.range 50).all (fun k => (fun y => decide ((rYn y).cls = rCn (Nat.div y 64))) (k + 50 * 11)) = true := by decide +kernel
theorem re_cls0_12 : (List.range 50).all (fun k => (fun y => decide ((rYn y).cls = rCn (Nat.div y 64))) (k + 50 * 12)) = true := by decide +kernel
theorem re_cls0_13 : (List.range 50).all (fun k => (fun y => decide ((rYn y).cls = rCn (Nat.div y 64))) (k + 50 * 13)) = true := by decide +kernel
theorem re_cls0_14 : (List.range 50).all (fun k => (fun y => decide ((rYn y).cls = rCn (Nat.div y 64))) (k + 50 * 14)) = true := by decide +kernel
theorem re_cls0_15 : (List.range 50).all (fun k => (fun y => decide ((rYn y).cls = rCn (Nat.div y 64))) (k + 50 * 15)) = true := by decide +kernel
theorem re_cls0_16 : (List.range 50).all (fun k => (fun y => decide ((rYn y).cls = rCn (Nat.div y 64))) (k + 50 * 16)) = true := by decide +kernel
theorem re_cls0_17 : (List.range 50).all (fun k => (fun y => decide ((rYn y).cls = rCn (Nat.div y 64))) (k + 50 * 17)) = true := by decide +kernel
theorem re_cls0_18 : (List.range 50).all (fun k => (fun y => decide ((rYn y).cls = rCn (Nat.div y 64))) (k + 50 * 18)) = true := by decide +kernel
theorem re_cls0_19 : (List.range 50).all (fun k => (fun y => decide ((rYn y).cls = rCn (Nat.div y 64))) (k + 50 * 19)) = true := by decide +kernel
theorem re_cls0_20 : (List.range 50).all (fun k => (fun y => decide ((rYn y).cls = rCn (Nat.div y 64))) (k + 50 * 20)) = true := by decide +kernel
theorem re_cls0_21 : (List.range 50).all (fun k => (fun y => decide ((rYn y).cls = rCn (Nat.div y 64))) (k + 50 * 21)) = true := by decide +kernel
theorem re_cls0_22 : (List.range 50).all (fun k => (fun y => decide ((rYn y).cls = rCn (Nat.div y 64))) (k + 50 * 22)) = true := by decide +kernel
theorem re_cls0_23 : (List.range 50).all (fun k => (fun y => decide ((rYn y).cls = rCn (Nat.div y 64))) (k + 50 * 23)) = true := by decide +kernel
theorem re_cls0_24 : (List.range 50).all (fun k => (fun y => decide ((rYn y).cls = rCn (Nat.div y 64))) (k + 50 * 24)) = true := by decide +kernel
theorem re_cls0_25 : (List.range 50).all (fun k => (fun y => decide ((rYn y).cls = rCn (Nat.div y 64))) (k + 50 * 25)) = true := by decide +kernel
theorem re_cls0_26 : (List.range 50).all (fun k => (fun y => decide ((rYn y).cls = rCn (Nat.div y 64))) (k + 50 * 26)) = true := by decide +kernel
theorem re_cls0_27 : (List.range 50).all (fun k => (fun y => decide ((rYn y).cls = rCn (Nat.div y 64))) (k + 50 * 27)) = true := by decide +kernel
theorem re_cls0_28 : (List.range 50).all (fun k => (fun y => decide ((rYn y).cls = rCn (Nat.div y 64))) (k + 50 * 28)) = true := by decide +kernel
theorem re_cls0 : (List.range 1408).all (fun y => decide ((rYn y).cls = rCn (Nat.div y 64))) = true := re_big (m := 29) (by decide +kernel) (fun i hi => match i, hi with
  | 0, _ => re_cls0_0
  | 1, _ => re_cls0_1
  | 2, _ => re_cls0_2
  | 3, _ => re_cls0_3
  | 4, _ => re_cls0_4
  | 5, _ => re_cls0_5
  | 6, _ => re_cls0_6
  | 7, _ => re_cls0_7
  | 8, _ => re_cls0_8
  | 9, _ => re_cls0_9
  | 10, _ => re_cls0_10
  | 11, _ => re_cls0_11
  | 12, _ => re_cls0_12
  | 13, _ => re_cls0_13
  | 14, _ => re_cls0_14
  | 15, _ => re_cls0_15
  | 16, _ => re_cls0_16
  | 17, _ => re_cls0_17
  | 18, _ => re_cls0_18
  | 19, _ => re_cls0_19
  | 20, _ => re_cls0_20
  | 21, _ => re_cls0_21
  | 22, _ => re_cls0_22
  | 23, _ => re_cls0_23
  | 24, _ => re_cls0_24
  | 25, _ => re_cls0_25
  | 26, _ => re_cls0_26
  | 27, _ => re_cls0_27
  | 28, _ => re_cls0_28
  | i + 29, h => absurd h (by omega))
theorem re_cls_eq (y : Nat) : (rYn y).cls = rCn (Nat.div y 64) := by
  rcases Nat.lt_or_ge y 1408 with h | h
  · exact of_decide_eq_true (re_rng re_cls0 h)
  · unfold rYn
    rw [re_blt_ge h]
    rfl
theorem re_o1 : ∀ y pc ins, re_ins rG y pc = some ins → ∃ len, decode (re_yb rN y) pc = .ok (ins, len) ∧ (re_len ins = 0 ∨ len = re_len ins) := by
  intro y pc ins h
  have h : (bif Nat.blt pc (rYs y) then rIns y pc else none) = some ins := h
  cases hb : Nat.blt pc (rYs y) with
  | false => rw [hb] at h; cases h
  | true =>
    rw [hb] at h
    have hlt : pc < rYs y := re_blt_lt hb
    have hy : y ∈ rIds := by
      rcases Nat.lt_or_ge y 1408 with h9 | h9
      · have h8 := re_rng re_sz h9
        simp only [Bool.or_eq_true] at h8
        rcases h8 with h8 | h8
        · exact List.contains_iff_mem.mp h8
        · have := Nat.eq_of_beq_eq_true h8
          omega
      · have : rYs y = 0 := by unfold rYs; rw [re_blt_ge h9]; rfl
        omega
    exact re_ckI_ok (re_rng (rKall y hy) hlt) h
/-- a check over all classes and all places of a pool -/
def re_two (f : Nat → Nat → Bool) (c : Nat) : Bool := (List.range 320).all (f c)
theorem re_two_ok {f : Nat → Nat → Bool} (h : (List.range 22).all (re_two f) = true) {c i : Nat} (hc : (Nat.blt c 22 && Nat.blt i 320) = true) : f c i = true := by
  simp only [Bool.and_eq_true] at hc
  exact re_rng (re_rng h (re_blt_lt hc.1)) (re_blt_lt hc.2)
theorem re_cond {α : Type} {b : Bool} {x : Option α} {v : α} (h : (bif b then x else none) = some v) : b = true := by
  cases b
  · cases h
  · rfl
def rckF (c idx : Nat) : Bool := match rFl c idx with
  | none => true
  | some (ci, k, ty, fin) => match rCl[ci]?, rFw c idx with
    | some r, some (w, w2, ref) => decide (k < r.2.2) && (re_wat w (.fieldLink (rCn c) idx ref (r.2.1 k).2.1 (r.2.1 k).2.2.1) && ((decide (ref = (r.2.1 k).1) || re_wat w2 (.sameField ref (r.2.1 k).1 (r.2.1 k).2.1 (r.2.1 k).2.2.1)) && (decide (parseFieldDescriptor (r.2.1 k).2.2.1 = some ty) && (decide (fin = 0 → (r.2.1 k).2.2.2 = false) && decide (fin = 1 → (r.2.1 k).2.2.2 = true ∧ (r.2.1 k).1 = rCn c)))))
    | _, _ => false
theorem rckF_0 : re_two rckF 0 = true := by decide +kernel
theorem rckF_1 : re_two rckF 1 = true := by decide +kernel
theorem rckF_2 : re_two rckF 2 = true := by decide +kernel
theorem rckF_3 : re_two rckF 3 = true := by decide +kernel
theorem rckF_4 : re_two rckF 4 = true := by decide +kernel
theorem rckF_5 : re_two rckF 5 = true := by decide +kernel
theorem rckF_6 : re_two rckF 6 = true := by decide +kernel
theorem rckF_7 : re_two rckF 7 = true := by decide +kernel
theorem rckF_8 : re_two rckF 8 = true := by decide +kernel
theorem rckF_9 : re_two rckF 9 = true := by decide +kernel
theorem rckF_10 : re_two rckF 10 = true := by decide +kernel
theorem rckF_11 : re_two rckF 11 = true := by decide +kernel
theorem rckF_12 : re_two rckF 12 = true := by decide +kernel
theorem rckF_13 : re_two rckF 13 = true := by decide +kernel
theorem rckF_14 : re_two rckF 14 = true := by decide +kernel
theorem rckF_15 : re_two rckF 15 = true := by decide +kernel
theorem rckF_16 : re_two rckF 16 = true := by decide +kernel
theorem rckF_17 : re_two rckF 17 = true := by decide +kernel
theorem rckF_18 : re_two rckF 18 = true := by decide +kernel
theorem rckF_19 : re_two rckF 19 = true := by decide +kernel
theorem rckF_20 : re_two rckF 20 = true := by decide +kernel
theorem rckF_21 : re_two rckF 21 = true := by decide +kernel
theorem rckF_all : (List.range 22).all (re_two rckF) = true := by
  rw [show List.range 22 = [0, 1, 2, 3, 4, 5, 6, 7, 8, 9, 10, 11, 12, 13, 14, 15, 16, 17, 18, 19, 20, 21] from rfl]
  simp only [List.all_cons, List.all_nil, Bool.and_true, rckF_0, rckF_1, rckF_2, rckF_3, rckF_4, rckF_5, rckF_6, rckF_7, rckF_8, rckF_9, rckF_10, rckF_11, rckF_12, rckF_13, rckF_14, rckF_15, rckF_16, rckF_17, rckF_18, rckF_19, rckF_20, rckF_21]
theorem re_o2 : ∀ y idx ci k ty fin, re_fl rG y idx = some (ci, k, ty, fin) → re_okF rN y idx ci k ty fin := by
  intro y idx ci k ty fin h
  have h : rFl (Nat.div y 64) idx = some (ci, k, ty, fin) := h
  have hk : rckF (Nat.div y 64) idx = true := re_two_ok rckF_all (re_cond (by unfold rFl at h; exact h))
  unfold rckF at hk
  rw [h] at hk
  dsimp only at hk
  split at hk
  next r w w2 ref hr hw =>
    simp only [Bool.and_eq_true, Bool.or_eq_true, decide_eq_true_eq] at hk
    obtain ⟨h1, h2, h2b, h3, h4, h5⟩ := hk
    exact ⟨r, ref, hr, h1, by show Cond.fieldLink (rYn y).cls _ _ _ _ ∈ _; rw [re_cls_eq]; exact re_wat_ok h2, h2b.elim (fun z => Or.inl z) (fun z => Or.inr (re_wat_ok z)), h3, h4, fun z => ⟨(h5 z).1, by show _ = (rYn y).cls; rw [re_cls_eq]; exact (h5 z).2⟩⟩
  next => cases hk
def rckC (ci : Nat) : Bool := match rCl[ci]? with
  | none => true
  | some r => (List.range r.2.2).all (fun k => re_wat ((rLy.getD ci []).getD k 0) (u_lay r.1 r.2.1 k)) && ((List.range r.2.2).all (fun k => decide (parseFieldDescriptor (r.2.1 k).2.2.1 = some (rUs.getD ci (fun _ => .int) k))) && (List.range r.2.2).all (fun a => (List.range r.2.2).all (fun b => decide (a = b) || decide ((r.2.1 a).2.1 ≠ (r.2.1 b).2.1))))
theorem rckC_0 : rckC 0 = true := by decide +kernel
theorem rckC_1 : rckC 1 = true := by decide +kernel
theorem rckC_2 : rckC 2 = true := by decide +kernel
theorem rckC_3 : rckC 3 = true := by decide +kernel
theorem rckC_4 : rckC 4 = true := by decide +kernel
theorem rckC_5 : rckC 5 = true := by decide +kernel
theorem rckC_6 : rckC 6 = true := by decide +kernel
theorem rckC_7 : rckC 7 = true := by decide +kernel
theorem rckC_8 : rckC 8 = true := by decide +kernel
theorem rckC_9 : rckC 9 = true := by decide +kernel
theorem rckC_10 : rckC 10 = true := by decide +kernel
theorem rckC_11 : rckC 11 = true := by decide +kernel
theorem rckC_12 : rckC 12 = true := by decide +kernel
theorem rckC_13 : rckC 13 = true := by decide +kernel
theorem rckC_14 : rckC 14 = true := by decide +kernel
theorem rckC_15 : rckC 15 = true := by decide +kernel
theorem rckC_16 : rckC 16 = true := by decide +kernel
theorem rckC_17 : rckC 17 = true := by decide +kernel
theorem rckC_18 : rckC 18 = true := by decide +kernel
theorem rckC_19 : rckC 19 = true := by decide +kernel
theorem rckC_20 : rckC 20 = true := by decide +kernel
theorem rckC_21 : rckC 21 = true := by decide +kernel
theorem rckC_all : (List.range 22).all rckC = true := by
  rw [show List.range 22 = [0, 1, 2, 3, 4, 5, 6, 7, 8, 9, 10, 11, 12, 13, 14, 15, 16, 17, 18, 19, 20, 21] from rfl]
  simp only [List.all_cons, List.all_nil, Bool.and_true, rckC_0, rckC_1, rckC_2, rckC_3, rckC_4, rckC_5, rckC_6, rckC_7, rckC_8, rckC_9, rckC_10, rckC_11, rckC_12, rckC_13, rckC_14, rckC_15, rckC_16, rckC_17, rckC_18, rckC_19, rckC_20, rckC_21]
theorem rCl_len : rCl.length < 22 := by decide +kernel
theorem re_o3 : re_Cl (re_cs rN) (re_B rN) := by
  refine ⟨by have := rCl_len; show rCl.length ≤ 100; omega, fun ci r hr => ?_⟩
  have hr : rCl[ci]? = some r := hr
  have hlt : ci < 22 := by
    have h1 := (List.getElem?_eq_some_iff.mp hr).1
    have h2 := rCl_len
    omega
  have hk := re_rng rckC_all hlt
  unfold rckC at hk
  rw [hr] at hk
  simp only [Bool.and_eq_true] at hk
  obtain ⟨h1, h2, h3⟩ := hk
  refine ⟨fun w hw => ?_, ⟨_, fun k hk => of_decide_eq_true (re_rng h2 hk)⟩, fun a ha b hb hab => ?_⟩
  · unfold u_ws at hw
    obtain ⟨k, hk, rfl⟩ := List.mem_map.mp hw
    exact re_wat_ok (re_rng h1 (List.mem_range.mp hk))
  · have h4 := re_rng (re_rng h3 ha) hb
    simp only [Bool.or_eq_true, decide_eq_true_eq] at h4
    rcases h4 with h4 | h4
    · exact absurd h4 hab
    · exact h4
theorem re_o4 : re_E rN 0 = .int ∧ re_E rN 1 = .long ∧ re_E rN 2 = .boolean ∧ 3 ≤ re_nE rG ∧ ∀ j, 3 ≤ j → j < re_nE rG → ∃ nm, re_E rN j = .object nm := by
  refine ⟨rfl, rfl, rfl, by decide +kernel, fun j h1 h2 => ?_⟩
  have h3 : (List.range (re_nE rG)).all (fun j => Nat.blt j 3 || match rE j with | .object _ => true | _ => false) = true := by decide +kernel
  have h4 := re_rng h3 h2
  rw [re_blt_ge h1] at h4
  simp only [Bool.false_or] at h4
  show ∃ nm, rE j = .object nm
  split at h4
  next nm hnm => exact ⟨nm, hnm⟩
  next => cases h4
def rckE (q : Nat × Nat × Option Nat) : Bool := match rCl[q.2.1]? with
  | none => false
  | some r => match q.2.2 with
    | none => decide (rE q.1 = .object r.1)
    | some t => match rE q.1 with
      | .object nm => decide (rTW[t]? = some (.castable r.1 nm))
      | _ => false
theorem rckE_all : rEcl.all rckE = true := by decide +kernel
theorem re_o5 : ∀ j ci, re_ec rG j ci = true → ∃ r : vw_C, (re_cs rN)[ci]? = some r ∧ (re_E rN j = .object r.1 ∨ ∃ nm, re_E rN j = .object nm ∧ Cond.castable r.1 nm ∈ re_TW rN) := by
  intro j ci h
  have h : (rEcl.any fun q => Nat.beq q.1 j && Nat.beq q.2.1 ci) = true := h
  obtain ⟨⟨j2, ci2, t⟩, hq, h2⟩ := List.any_eq_true.mp h
  simp only [Bool.and_eq_true] at h2
  obtain ⟨e1, e2⟩ := h2
  cases Nat.eq_of_beq_eq_true e1
  cases Nat.eq_of_beq_eq_true e2
  have hk := List.all_eq_true.mp rckE_all _ hq
  unfold rckE at hk
  dsimp only at hk
  split at hk
  next => cases hk
  next r hr =>
    refine ⟨r, hr, ?_⟩
    split at hk
    next => exact Or.inl (of_decide_eq_true hk)
    next t9 =>
      split at hk
      next nm hnm => exact Or.inr ⟨nm, hnm, List.mem_append_left _ (List.mem_of_getElem? (of_decide_eq_true hk))⟩
      next => cases hk
theorem re_ini0_0 : (List.range 50).all (fun k => (fun y => !rYi y || decide ((rYn y).name = "<init>")) (k + 50 * 0)) = true := by decide +kernel
theorem re_ini0_1 : (List.range 50).all (fun k => (fun y => !rYi y || decide ((rYn y).name = "<init>")) (k + 50 * 1)) = true := by decide +kernel
theorem re_ini0_2 : (List.range 50).all (fun k => (fun y => !rYi y || decide ((rYn y).name = "<init>")) (k + 50 * 2)) = true := by decide +kernel
theorem re_ini0_3 : (List.range 50).all (fun k => (fun y => !rYi y || decide ((rYn y).name = "<init>")) (k + 50 * 3)) = true := by decide +kernel
theorem re_ini0_4 : (List.range 50).all (fun k => (fun y => !rYi y || decide ((rYn y).name = "<init>")) (k + 50 * 4)) = true := by decide +kernel
theorem re_ini0_5 : (List.range 50).all (fun k => (fun y => !rYi y || decide ((rYn y).name = "<init>")) (k + 50 * 5)) = true := by decide +kernel
theorem re_ini0_6 : (List.range 50).all (fun k => (fun y => !rYi y || decide ((rYn y).name = "<init>")) (k + 50 * 6)) = true := by decide +kernel
theorem re_ini0_7 : (List.range 50).all (fun k => (fun y => !rYi y || decide ((rYn y).name = "<init>")) (k + 50 * 7)) = true := by decide +kernel
theorem re_ini0_8 : (List.range 50).all (fun k => (fun y => !rYi y || decide ((rYn y).name = "<init>")) (k + 50 * 8)) = true := by decide +kernel
theorem re_ini0_9 : (List.range 50).all (fun k => (fun y => !rYi y || decide ((rYn y).name = "<init>")) (k + 50 * 9)) = true := by decide +kernel
theorem re_ini0_10 : (List.range 50).all (fun k => (fun y => !rYi y || decide ((rYn y).name = "<init>")) (k + 50 * 10)) = true := by decide +kernel
theorem re_ini0_11 : (List.range 50).all (fun k => (fun y => !rYi y || decide ((rYn y).name = "<init>")) (k + 50 * 11)) = true := by decide +kernel
theorem re_ini0_12 : (List.range 50).all (fun k => (fun y => !rYi y || decide ((rYn y).name = "<init>")) (k + 50 * 12)) = true := by decide +kernel
theorem re_ini0_13 : (List.range 50).all (fun k => (fun y => !rYi y || decide ((rYn y).name = "<init>")) (k + 50 * 13)) = true := by decide +kernel
theorem re_ini0_14 : (List.range 50).all (fun k => (fun y => !rYi y || decide ((rYn y).name = "<init>")) (k + 50 * 14)) = true := by decide +kernel
theorem re_ini0_15 : (List.range 50).all (fun k => (fun y => !rYi y || decide ((rYn y).name = "<init>")) (k + 50 * 15)) = true := by decide +kernel
theorem re_ini0_16 : (List.range 50).all (fun k => (fun y => !rYi y || decide ((rYn y).name = "<init>")) (k + 50 * 16)) = true := by decide +kernel
theorem re_ini0_17 : (List.range 50).all (fun k => (fun y => !rYi y || decide ((rYn y).name = "<init>")) (k + 50 * 17)) = true := by decide +kernel
theorem re_ini0_18 : (List.range 50).all (fun k => (fun y => !rYi y || decide ((rYn y).name = "<init>")) (k + 50 * 18)) = true := by decide +kernel
theorem re_ini0_19 : (List.range 50).all (fun k => (fun y => !rYi y || decide ((rYn y).name = "<init>")) (k + 50 * 19)) = true := by decide +kernel
theorem re_ini0_20 : (List.range 50).all (fun k => (fun y => !rYi y || decide ((rYn y).name = "<init>")) (k + 50 * 20)) = true := by decide +kernel
theorem re_ini0_21 : (List.range 50).all (fun k => (fun y => !rYi y || decide ((rYn y).name = "<init>")) (k + 50 * 21)) = true := by decide +kernel
theorem re_ini0_22 : (List.range 50).all (fun k => (fun y => !rYi y || decide ((rYn y).name = "<init>")) (k + 50 * 22)) = true := by decide +kernel
theorem re_ini0_23 : (List.range 50).all (fun k => (fun y => !rYi y || decide ((rYn y).name = "<init>")) (k + 50 * 23)) = true := by decide +kernel
theorem re_ini0_24 : (List.range 50).all (fun k => (fun y => !rYi y || decide ((rYn y).name = "<init>")) (k + 50 * 24)) = true := by decide +kernel
theorem re_ini0_25 : (List.range 50).all (fun k => (fun y => !rYi y || decide ((rYn y).name = "<init>")) (k + 50 * 25)) = true := by decide +kernel
theorem re_ini0_26 : (List.range 50).all (fun k => (fun y => !rYi y || decide ((rYn y).name = "<init>")) (k + 50 * 26)) = true := by decide +kernel
theorem re_ini0_27 : (List.range 50).all (fun k => (fun y => !rYi y || decide ((rYn y).name = "<init>")) (k + 50 * 27)) = true := by decide +kernel
theorem re_ini0_28 : (List.range 50).all (fun k => (fun y => !rYi y || decide ((rYn y).name = "<init>")) (k + 50 * 28)) = true := by decide +kernel
theorem re_ini0 : (List.range 1408).all (fun y => !rYi y || decide ((rYn y).name = "<init>")) = true := re_big (m := 29) (by decide +kernel) (fun i hi => match i, hi with
  | 0, _ => re_ini0_0
  | 1, _ => re_ini0_1
  | 2, _ => re_ini0_2
  | 3, _ => re_ini0_3
  | 4, _ => re_ini0_4
  | 5, _ => re_ini0_5
  | 6, _ => re_ini0_6
  | 7, _ => re_ini0_7
  | 8, _ => re_ini0_8
  | 9, _ => re_ini0_9
  | 10, _ => re_ini0_10
  | 11, _ => re_ini0_11
  | 12, _ => re_ini0_12
  | 13, _ => re_ini0_13
  | 14, _ => re_ini0_14
  | 15, _ => re_ini0_15
  | 16, _ => re_ini0_16
  | 17, _ => re_ini0_17
  | 18, _ => re_ini0_18
  | 19, _ => re_ini0_19
  | 20, _ => re_ini0_20
  | 21, _ => re_ini0_21
  | 22, _ => re_ini0_22
  | 23, _ => re_ini0_23
  | 24, _ => re_ini0_24
  | 25, _ => re_ini0_25
  | 26, _ => re_ini0_26
  | 27, _ => re_ini0_27
  | 28, _ => re_ini0_28
  | i + 29, h => absurd h (by omega))
theorem re_o6 : ∀ y, re_isI rG y = true → (re_yn rN y).name = "<init>" := by
  intro y h
  have h : rYi y = true := h
  rcases Nat.lt_or_ge y 1408 with h9 | h9
  · have h8 := re_rng re_ini0 h9
    rw [h] at h8
    show (rYn y).name = "<init>"
    simpa using h8
  · unfold rYi at h
    rw [re_blt_ge h9] at h
    cases h
