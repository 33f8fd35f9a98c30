/-- the words of an exception's making, but for the link -/
def re_atR (X : String) : List Cond := (Bundle.throwableAtoms ++ Bundle.throwableSAtoms ++ Bundle.chainSAtoms X re_xs ++
  ([.instantiable X 6, .castable X X, .selects X Bundle.tFill0 Bundle.tFill0, .selects X Bundle.tFill Bundle.tFill,
   .lays X Bundle.tN "cause" "Ljava/lang/Throwable;", .lays X Bundle.tN "stackTrace" Bundle.steD, .lays X Bundle.tN "suppressedExceptions" Bundle.listD, .lays X Bundle.tN "detailMessage" "Ljava/lang/String;",
   .isRef (.static Bundle.tN "UNASSIGNED_STACK" Bundle.steD), .isRef (.static Bundle.tN "SUPPRESSED_SENTINEL" Bundle.listD),
   .fieldLink Bundle.tN 198 Bundle.tN "backtrace" "Ljava/lang/Object;", .lays Bundle.tN Bundle.tN "backtrace" "Ljava/lang/Object;", .lays X Bundle.tN "backtrace" "Ljava/lang/Object;"] : List Cond)).filter vx_no
theorem re_atR_ok {own X : String} {ic : Nat} {w : Cond} (h : w ∈ vx_atS own ic X re_xs) : w = .methodLink own ic (Bundle.initS X) ∨ w ∈ re_atR X := by
  unfold vx_atS Bundle.ownAtoms at h
  obtain ⟨h1, h2⟩ := List.mem_filter.mp h
  rw [List.mem_append] at h1
  unfold re_atR
  rcases h1 with h1 | h1
  · exact Or.inr (List.mem_filter.mpr ⟨List.mem_append_left _ h1, h2⟩)
  · rcases List.mem_cons.mp h1 with rfl | h1
    · exact Or.inl rfl
    · exact Or.inr (List.mem_filter.mpr ⟨List.mem_append_right _ h1, h2⟩)
def rckR (X : String) (w : Cond) : Bool := (goodWord w && decide (w ∈ lw_tbl)) || decide (w ∈ rTW ++ rTWd)
theorem rckR_0 : (re_atR (rXn 0)).all (rckR (rXn 0)) = true := by decide +kernel
theorem rckR_1 : (re_atR (rXn 1)).all (rckR (rXn 1)) = true := by decide +kernel
theorem rckR_2 : (re_atR (rXn 2)).all (rckR (rXn 2)) = true := by decide +kernel
theorem rckO_0 : (re_atR (rXn 0)).all vx_ot = true := by decide +kernel
theorem rckO_1 : (re_atR (rXn 1)).all vx_ot = true := by decide +kernel
theorem rckO_2 : (re_atR (rXn 2)).all vx_ot = true := by decide +kernel
theorem rckR_ok {x : Nat} (hx : x < 3) : (re_atR (rXn x)).all (rckR (rXn x)) = true ∧ (re_atR (rXn x)).all vx_ot = true := by
  match x, hx with
  | 0, _ => exact ⟨rckR_0, rckO_0⟩
  | 1, _ => exact ⟨rckR_1, rckO_1⟩
  | 2, _ => exact ⟨rckR_2, rckO_2⟩
def rckT (q : Nat × Nat) : Bool := match rTh q.1 q.2, rTp q.1 q.2 with
  | some (x, ik, is, ic, text), some (p1, p2, p3) => Nat.blt x 3 && (decide (rTx q.1 q.2 = some x) && (Bundle.fit (rXn x) && (re_wat p1 (.classLink (rYn q.1).cls ik (rXn x)) && (re_wat p2 (.initialized (rXn x)) && (re_wat p3 (.methodLink (rYn q.1).cls ic (Bundle.initS (rXn x))) && (decide (((rYn q.1).cls, is, text) ∈ rSL) && (decide (decode (rYb q.1) q.2 = .ok (.new ik, 3)) && (decide (decode (rYb q.1) (q.2 + 3) = .ok (.dup, 1)) && ((decide (decode (rYb q.1) (q.2 + 4) = .ok (.ldc is, 2)) && (decide (decode (rYb q.1) (q.2 + 6) = .ok (.invokespecial ic, 3)) && decide (decode (rYb q.1) (q.2 + 9) = .ok (.athrow, 1)))) ||
    (decide (decode (rYb q.1) (q.2 + 4) = .ok (.ldc_w is, 3)) && (decide (decode (rYb q.1) (q.2 + 7) = .ok (.invokespecial ic, 3)) && decide (decode (rYb q.1) (q.2 + 10) = .ok (.athrow, 1)))))))))))))
  | _, _ => false
theorem rckT_all : rThs.all rckT = true := by decide +kernel
theorem rckH_all : rThs.all (fun q => (rHh q.1).isEmpty) = true := by decide +kernel
def rckS (y pc : Nat) : Bool := match rTx y pc with
  | none => true
  | some _ => decide ((y, pc) ∈ rThs)
theorem rckS_all : (List.range 1408).all (fun y => (List.range 256).all (rckS y)) = true := by decide +kernel
theorem re_o12 : ∀ y pc x, re_tw rG y pc = some x → re_okT rN y pc x ∧ re_hh rG y = [] := by
  intro y pc x h
  have h : rTx y pc = some x := h
  have hb : (Nat.blt y 1408 && Nat.blt pc 256) = true := re_cond (by unfold rTx at h; exact h)
  simp only [Bool.and_eq_true] at hb
  have hs := re_rng (re_rng rckS_all (re_blt_lt hb.1)) (re_blt_lt hb.2)
  unfold rckS at hs
  rw [h] at hs
  have hm : (y, pc) ∈ rThs := of_decide_eq_true hs
  have hk := List.all_eq_true.mp rckT_all _ hm
  unfold rckT at hk
  dsimp only at hk
  split at hk
  next x2 ik is ic text p1 p2 p3 h1 h2 =>
    simp only [Bool.and_eq_true, Bool.or_eq_true, decide_eq_true_eq] at hk
    obtain ⟨k1, k2, k3, k4, k5, k6, k7, k8, k9, k10⟩ := hk
    cases h.symm.trans k2
    obtain ⟨r1, r2⟩ := rckR_ok (re_blt_lt k1)
    refine ⟨⟨re_blt_lt k1, ik, is, ic, text, k3, re_wat_ok k4, re_wat_ok k5, k7, fun w hw => ?_, fun w hw => ?_, k8, k9, k10⟩, List.isEmpty_iff.mp (List.all_eq_true.mp rckH_all _ hm)⟩
    · rcases re_atR_ok hw with rfl | hw
      · exact Or.inl (re_wat_ok k6)
      · have h9 := List.all_eq_true.mp r1 w hw
        unfold rckR at h9
        simp only [Bool.and_eq_true, Bool.or_eq_true, decide_eq_true_eq] at h9
        rcases h9 with ⟨h9, h8⟩ | h9
        · exact Or.inl (List.mem_filter.mpr ⟨h8, h9⟩)
        · exact Or.inr h9
    · rcases List.mem_cons.mp hw with rfl | hw
      · rfl
      · rcases List.mem_cons.mp hw with rfl | hw
        · rfl
        · rcases re_atR_ok hw with rfl | hw
          · rfl
          · exact List.all_eq_true.mp r2 w hw
  next => cases hk
def rckZ (w : Cond) : Bool := match w with
  | .castable _ _ => true
  | .methodLinkNest _ _ _ _ => true
  | .declares _ => true
  | _ => false
theorem rckZ_all : (rTW ++ rTWd).all rckZ = true := by decide +kernel
theorem re_o14 : ∀ w ∈ re_TW rN, (∃ C T, w = .castable C T) ∨ (∃ a i x z, w = .methodLinkNest a i x z) ∨ ∃ x, w = .declares x := by
  intro w hw
  have hk := List.all_eq_true.mp rckZ_all w hw
  unfold rckZ at hk
  split at hk
  next => exact Or.inl ⟨_, _, rfl⟩
  next => exact Or.inr (Or.inl ⟨_, _, _, _, rfl⟩)
  next => exact Or.inr (Or.inr ⟨_, rfl⟩)
  next => cases hk
def rckH (c t : Nat) : Bool := match rHk c t with
  | none => true
  | some x => match rHw c t with
    | some w => decide (x < 3) && (decide (¬ t = 0) && (re_wat w (.classLink (rCn c) t (rXn x)) && decide ((rTW ++ rTWd)[rXc.getD x 0]? = some (.castable (rXn x) (rXn x)))))
    | none => false
theorem rckHk_all : (List.range 22).all (re_two rckH) = true := by decide +kernel
theorem re_o15 : ∀ y t x, re_hk rG y t = some x → x < 3 ∧ ¬ t = 0 ∧ Cond.classLink (re_yn rN y).cls t (re_xn rN x) ∈ re_B rN ∧ Cond.castable (re_xn rN x) (re_xn rN x) ∈ re_TW rN := by
  intro y t x h
  have h : rHk (Nat.div y 64) t = some x := h
  have hk : rckH (Nat.div y 64) t = true := re_two_ok rckHk_all (re_cond (by unfold rHk at h; exact h))
  unfold rckH at hk
  rw [h] at hk
  dsimp only at hk
  split at hk
  next w hw =>
    simp only [Bool.and_eq_true, decide_eq_true_eq] at hk
    obtain ⟨k1, k2, k3, k4⟩ := hk
    exact ⟨k1, k2, by show Cond.classLink (rYn y).cls _ _ ∈ _; rw [re_cls_eq]; exact re_wat_ok k3, List.mem_of_getElem? k4⟩
  next => cases hk
/-- the tables of this claim are right -/
theorem rOk : re_ok rN rG := ⟨re_o1, re_o2, re_o3, re_o4, re_o5, re_o6, re_o7, re_o8, re_o9, re_o10, re_o11, re_o12, fun _ hw => (List.mem_filter.mp hw).2, re_o14, re_o15⟩
