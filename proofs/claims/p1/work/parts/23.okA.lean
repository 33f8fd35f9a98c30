/-! The tables are right: checks by evaluation. -/
def re_wat (i : Nat) (w : Cond) : Bool := decide (lw_tbl[i]? = some w) && goodWord w
theorem re_wat_ok {i : Nat} {w : Cond} (h : re_wat i w = true) : w ∈ lw_tbl.filter goodWord := by
  unfold re_wat at h
  simp only [Bool.and_eq_true, decide_eq_true_eq] at h
  exact List.mem_filter.mpr ⟨List.mem_of_getElem? h.1, h.2⟩
theorem re_blt_ge {a b : Nat} (h : b ≤ a) : Nat.blt a b = false := by
  cases hz : Nat.blt a b with
  | false => rfl
  | true => exact absurd (Nat.le_of_ble_eq_true hz) (by omega)
theorem re_blt_lt {a b : Nat} (h : Nat.blt a b = true) : a < b := Nat.le_of_ble_eq_true h
theorem re_sz : (List.range 1408).all (fun y => rIds.contains y || Nat.beq (rYs y) 0) = true := by decide +kernel
theorem re_cls0 : (List.range 1408).all (fun y => decide ((rYn y).cls = rCn (Nat.div y 64))) = true := by decide +kernel
theorem re_cls_eq (y : Nat) : (rYn y).cls = rCn (Nat.div y 64) := by
  rcases Nat.lt_or_ge y 1408 with h | h
  · exact of_decide_eq_true (re_rng re_cls0 h)
  · unfold rYn
    rw [re_blt_ge h]
    rfl
theorem re_o1 : ∀ y pc ins, re_ins rG y pc = some ins → ∃ len, decode (re_yb rN y) pc = .ok (ins, len) ∧ (re_len ins = 0 ∨ len = re_len ins) := by
  intro y pc ins h
  have h : (bif Nat.blt pc (rYs y) then rIns y pc else none) = some ins := h
  cases hb : Nat.blt pc (rYs y) with
  | false => rw [hb] at h; cases h
  | true =>
    rw [hb] at h
    have hlt : pc < rYs y := re_blt_lt hb
    have hy : y ∈ rIds := by
      rcases Nat.lt_or_ge y 1408 with h9 | h9
      · have h8 := re_rng re_sz h9
        simp only [Bool.or_eq_true] at h8
        rcases h8 with h8 | h8
        · exact List.contains_iff_mem.mp h8
        · have := Nat.eq_of_beq_eq_true h8
          omega
      · have : rYs y = 0 := by unfold rYs; rw [re_blt_ge h9]; rfl
        omega
    exact re_ckI_ok (re_rng (rKall y hy) hlt) h
/-- a check over all classes and all places of a pool -/
def re_two (f : Nat → Nat → Bool) (c : Nat) : Bool := (List.range 320).all (f c)
theorem re_two_ok {f : Nat → Nat → Bool} (h : (List.range 22).all (re_two f) = true) {c i : Nat} (hc : (Nat.blt c 22 && Nat.blt i 320) = true) : f c i = true := by
  simp only [Bool.and_eq_true] at hc
  exact re_rng (re_rng h (re_blt_lt hc.1)) (re_blt_lt hc.2)
theorem re_cond {α : Type} {b : Bool} {x : Option α} {v : α} (h : (bif b then x else none) = some v) : b = true := by
  cases b
  · cases h
  · rfl
def rckF (c idx : Nat) : Bool := match rFl c idx with
  | none => true
  | some (ci, k, ty, fin) => match rCl[ci]?, rFw c idx with
    | some r, some (w, w2, ref) => decide (k < r.2.2) && (re_wat w (.fieldLink (rCn c) idx ref (r.2.1 k).2.1 (r.2.1 k).2.2.1) && ((decide (ref = (r.2.1 k).1) || re_wat w2 (.sameField ref (r.2.1 k).1 (r.2.1 k).2.1 (r.2.1 k).2.2.1)) && (decide (parseFieldDescriptor (r.2.1 k).2.2.1 = some ty) && (decide (fin = 0 → (r.2.1 k).2.2.2 = false) && decide (fin = 1 → (r.2.1 k).2.2.2 = true ∧ (r.2.1 k).1 = rCn c)))))
    | _, _ => false
theorem rckF_all : (List.range 22).all (re_two rckF) = true := by decide +kernel
theorem re_o2 : ∀ y idx ci k ty fin, re_fl rG y idx = some (ci, k, ty, fin) → re_okF rN y idx ci k ty fin := by
  intro y idx ci k ty fin h
  have h : rFl (Nat.div y 64) idx = some (ci, k, ty, fin) := h
  have hk : rckF (Nat.div y 64) idx = true := re_two_ok rckF_all (re_cond (by unfold rFl at h; exact h))
  unfold rckF at hk
  rw [h] at hk
  dsimp only at hk
  split at hk
  next r w w2 ref hr hw =>
    simp only [Bool.and_eq_true, Bool.or_eq_true, decide_eq_true_eq] at hk
    obtain ⟨h1, h2, h2b, h3, h4, h5⟩ := hk
    exact ⟨r, ref, hr, h1, by show Cond.fieldLink (rYn y).cls _ _ _ _ ∈ _; rw [re_cls_eq]; exact re_wat_ok h2, h2b.elim (fun z => Or.inl z) (fun z => Or.inr (re_wat_ok z)), h3, h4, fun z => ⟨(h5 z).1, by show _ = (rYn y).cls; rw [re_cls_eq]; exact (h5 z).2⟩⟩
  next => cases hk
def rckC (ci : Nat) : Bool := match rCl[ci]? with
  | none => true
  | some r => (List.range r.2.2).all (fun k => re_wat ((rLy.getD ci []).getD k 0) (u_lay r.1 r.2.1 k)) && ((List.range r.2.2).all (fun k => decide (parseFieldDescriptor (r.2.1 k).2.2.1 = some (rUs.getD ci (fun _ => .int) k))) && (List.range r.2.2).all (fun a => (List.range r.2.2).all (fun b => decide (a = b) || decide ((r.2.1 a).2.1 ≠ (r.2.1 b).2.1))))
theorem rckC_all : (List.range 22).all rckC = true := by decide +kernel
theorem rCl_len : rCl.length < 22 := by decide +kernel
theorem re_o3 : re_Cl (re_cs rN) (re_B rN) := by
  refine ⟨by have := rCl_len; show rCl.length ≤ 100; omega, fun ci r hr => ?_⟩
  have hr : rCl[ci]? = some r := hr
  have hlt : ci < 22 := by
    have h1 := (List.getElem?_eq_some_iff.mp hr).1
    have h2 := rCl_len
    omega
  have hk := re_rng rckC_all hlt
  unfold rckC at hk
  rw [hr] at hk
  simp only [Bool.and_eq_true] at hk
  obtain ⟨h1, h2, h3⟩ := hk
  refine ⟨fun w hw => ?_, ⟨_, fun k hk => of_decide_eq_true (re_rng h2 hk)⟩, fun a ha b hb hab => ?_⟩
  · unfold u_ws at hw
    obtain ⟨k, hk, rfl⟩ := List.mem_map.mp hw
    exact re_wat_ok (re_rng h1 (List.mem_range.mp hk))
  · have h4 := re_rng (re_rng h3 ha) hb
    simp only [Bool.or_eq_true, decide_eq_true_eq] at h4
    rcases h4 with h4 | h4
    · exact absurd h4 hab
    · exact h4
theorem re_o4 : re_E rN 0 = .int ∧ re_E rN 1 = .long ∧ re_E rN 2 = .boolean ∧ 3 ≤ re_nE rG ∧ ∀ j, 3 ≤ j → j < re_nE rG → ∃ nm, re_E rN j = .object nm := by
  refine ⟨rfl, rfl, rfl, by decide +kernel, fun j h1 h2 => ?_⟩
  have h3 : (List.range (re_nE rG)).all (fun j => Nat.blt j 3 || match rE j with | .object _ => true | _ => false) = true := by decide +kernel
  have h4 := re_rng h3 h2
  rw [re_blt_ge h1] at h4
  simp only [Bool.false_or] at h4
  show ∃ nm, rE j = .object nm
  split at h4
  next nm hnm => exact ⟨nm, hnm⟩
  next => cases h4
def rckE (q : Nat × Nat × Option Nat) : Bool := match rCl[q.2.1]? with
  | none => false
  | some r => match q.2.2 with
    | none => decide (rE q.1 = .object r.1)
    | some t => match rE q.1 with
      | .object nm => decide (rTW[t]? = some (.castable r.1 nm))
      | _ => false
theorem rckE_all : rEcl.all rckE = true := by decide +kernel
theorem re_o5 : ∀ j ci, re_ec rG j ci = true → ∃ r : vw_C, (re_cs rN)[ci]? = some r ∧ (re_E rN j = .object r.1 ∨ ∃ nm, re_E rN j = .object nm ∧ Cond.castable r.1 nm ∈ re_TW rN) := by
  intro j ci h
  have h : (rEcl.any fun q => Nat.beq q.1 j && Nat.beq q.2.1 ci) = true := h
  obtain ⟨⟨j2, ci2, t⟩, hq, h2⟩ := List.any_eq_true.mp h
  simp only [Bool.and_eq_true] at h2
  obtain ⟨e1, e2⟩ := h2
  cases Nat.eq_of_beq_eq_true e1
  cases Nat.eq_of_beq_eq_true e2
  have hk := List.all_eq_true.mp rckE_all _ hq
  unfold rckE at hk
  dsimp only at hk
  split at hk
  next => cases hk
  next r hr =>
    refine ⟨r, hr, ?_⟩
    split at hk
    next => exact Or.inl (of_decide_eq_true hk)
    next t9 =>
      split at hk
      next nm hnm => exact Or.inr ⟨nm, hnm, List.mem_append_left _ (List.mem_of_getElem? (of_decide_eq_true hk))⟩
      next => cases hk
theorem re_ini0 : (List.range 1408).all (fun y => !rYi y || decide ((rYn y).name = "<init>")) = true := by decide +kernel
theorem re_o6 : ∀ y, re_isI rG y = true → (re_yn rN y).name = "<init>" := by
  intro y h
  have h : rYi y = true := h
  rcases Nat.lt_or_ge y 1408 with h9 | h9
  · have h8 := re_rng re_ini0 h9
    rw [h] at h8
    show (rYn y).name = "<init>"
    simpa using h8
  · unfold rYi at h
    rw [re_blt_ge h9] at h
    cases h
