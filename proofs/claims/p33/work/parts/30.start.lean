/-! The law's start: what a state is there. -/
theorem re_arr_p {s : State} {args : Array Value} {ty : FieldType} (hty : ty = .int ∨ ty = .long ∨ ty = .boolean) (h : (Cond.arrayClass ty).before args s = true) : ∃ c, ArrOfT s c ty ∧ va_RA s c ty := by
  obtain ⟨c, k, comp, h1, h2, h3⟩ := Cond.arrayClass_spec h
  refine ⟨c, fun N z => ⟨(fun k h => by cases h), k, h2, comp, h3⟩, ?_⟩
  rcases hty with rfl | rfl | rfl <;> exact h1
theorem re_arr_o {s : State} {C : String} (h : va_AO C s) : ∃ c, ArrOfT s c (.object C) ∧ va_RA s c (.object C) := by
  obtain ⟨comp, c, k, h1, h2, h3, h4, h5⟩ := Cond.arrayOver_spec (args := #[]) h
  exact ⟨c, fun N z => ⟨(fun k h => by cases h), k, h3, comp, h4⟩, k, comp, h3, h4, h1, h5⟩
theorem re_str {s : State} {args : Array Value} {own text : String} {index : Nat} (h : (Cond.stringRef own index text).before args s = true) : ∃ a, vk_R own index text a s := by
  cases hc : s.vm.findClass own with
  | none => simp [Cond.before, Cond.holds, Cond.value, hc] at h
  | some cc =>
    obtain ⟨k1, cf, i, a, hk, hcf, hp, -, hr, -⟩ := Cond.stringRef_spec hc h
    refine ⟨a, vk_R.of h ?_⟩
    simp [Term.eval, State.resolvedAt?, hc, hk, hr]
theorem rSt_inst : (List.range 22).all (fun ci => match rCl[ci]? with
  | none => true
  | some r => decide (Cond.instantiable r.1 r.2.2 ∈ lw_tbl)) = true := by decide +kernel
theorem rSt_over : rEl.all (fun t => match t with
  | .object C => decide (Cond.arrayOver (.object C) ∈ lw_tbl)
  | _ => true) = true := by decide +kernel
theorem rSt_str : rSL.all (fun q => decide (Cond.stringRef q.1 q.2.1 q.2.2 ∈ lw_tbl)) = true := by decide +kernel
theorem rSt_tw : (List.range (rTW ++ rTWd).length).all (fun i => decide (lw_tbl[(rTWat ++ rTWdat).getD i 0]? = (rTW ++ rTWd)[i]?)) = true := by decide +kernel
theorem rSt_lu : Cond.laysStatic Bundle.tN "UNASSIGNED_STACK" Bundle.steD ∈ lw_tbl := by decide +kernel
theorem rSt_ln : Cond.laysStatic Bundle.tN "SUPPRESSED_SENTINEL" Bundle.listD ∈ lw_tbl := by decide +kernel
theorem rSt_in : Cond.initialized Bundle.tN ∈ lw_tbl := by decide +kernel
/-- the outside references: the script -/
def rOut (t mi b : Nat) : Nat → Nat := fun n => if n = 0 then t else if n = 3 then mi else b
theorem rSt {args : Array Value} {s : State} {b L : Nat} {xs : Nat → Int32} (hts : ∀ w ∈ lw_tbl, w.before args s = true) (hX : va_X b L xs s s.heap) (hbl : b < s.heap.size) (hgv : (Jvm.Cond.and given_1 narrow_1).before args s = true) (ρ : Nat → Int32) (σ : Nat → Int64) :
    ∃ (D : va_G) (tys : List (ClassId × FieldType)) (cA : Nat → ClassId) (t mi : Nat), re_At ((rOut t mi b, ρ, σ, L, xs) : re_V) rN D tys s.heap.size s ∧ ∀ j, j < re_nE rG → tys[j]? = some (cA j, re_E rN j) := by
  have hB : ∀ w ∈ re_B rN, w.before args s = true := fun w hw => hts w (List.mem_filter.mp hw).1
  have hfl := flat_of_before _ hgv
  have hcls : ∀ ci : Nat, ∃ q : ClassId × (Nat → Nat), ∀ r : vw_C, rCl[ci]? = some r → u_Kn s r.1 r.2.1 r.2.2 q.1 q.2 := by
    intro ci
    cases hr : rCl[ci]? with
    | none => exact ⟨(0, fun _ => 0), fun r h => by cases h⟩
    | some r =>
      have hlt : ci < 22 := by
        have h1 := (List.getElem?_eq_some_iff.mp hr).1
        have h2 := rCl_len
        omega
      have h3 := re_rng rSt_inst hlt
      rw [hr] at h3
      obtain ⟨c, i, h⟩ := u_known hB (re_o3.2 ci r hr).1 (hts _ (of_decide_eq_true h3))
      exact ⟨(c, i), fun r' h' => by cases h'; exact h⟩
  have hover : ∀ (j : Nat) (C : String), rE j = .object C → va_AO C s := by
    intro j C hj
    have hlt : j < rEl.length := by
      rcases Nat.lt_or_ge j rEl.length with h | h
      · exact h
      · unfold rE at hj
        rw [List.getD_eq_getElem?_getD, List.getElem?_eq_none h] at hj
        cases hj
    have hm : rEl[j] ∈ rEl := List.getElem_mem hlt
    have he : rEl[j] = .object C := by
      unfold rE at hj
      rw [List.getD_eq_getElem?_getD, List.getElem?_eq_getElem hlt] at hj
      exact hj
    have h1 := List.all_eq_true.mp rSt_over _ hm
    rw [he] at h1
    exact va_AO.of (hts _ (of_decide_eq_true h1))
  have harr : ∀ j : Nat, ∃ c : ClassId, j < re_nE rG → ArrOfT s c (rE j) ∧ va_RA s c (rE j) := by
    intro j
    rcases Nat.lt_or_ge j 3 with h | h
    · have hj : j = 0 ∨ j = 1 ∨ j = 2 := by omega
      rcases hj with rfl | rfl | rfl
      · obtain ⟨c, hc⟩ := re_arr_p (Or.inl rfl) (hB _ re_o10.1)
        exact ⟨c, fun _ => hc⟩
      · obtain ⟨c, hc⟩ := re_arr_p (Or.inr (Or.inl rfl)) (hB _ re_o10.2.1)
        exact ⟨c, fun _ => hc⟩
      · obtain ⟨c, hc⟩ := re_arr_p (Or.inr (Or.inr rfl)) (hB _ re_o10.2.2)
        exact ⟨c, fun _ => hc⟩
    · rcases Nat.lt_or_ge j (re_nE rG) with h2 | h2
      · obtain ⟨nm, hnm⟩ := re_o4.2.2.2.2 j h h2
        have hnm : rE j = .object nm := hnm
        obtain ⟨c, hc⟩ := re_arr_o (hover j nm hnm)
        exact ⟨c, fun _ => by rw [hnm]; exact hc⟩
      · exact ⟨0, fun z => absurd z (by omega)⟩
  obtain ⟨f, hf⟩ := Classical.axiomOfChoice hcls
  obtain ⟨g, hg⟩ := Classical.axiomOfChoice harr
  have hty : ∀ j, j < re_nE rG → ((List.range (re_nE rG)).map (fun j => (g j, rE j)))[j]? = some (g j, rE j) := fun j hj => by
    rw [List.getElem?_map, List.getElem?_range hj]
    rfl
  refine ⟨(fun c => (f c).1, fun c => (f c).2), (List.range (re_nE rG)).map (fun j => (g j, rE j)), g, 0, 0, ⟨⟨fun c q hq => hf c q hq, fun k q hk => ?_⟩, ?_, ?_, fun q hq => ?_, Nat.le_refl _, hover, fun w hw => ⟨re_o14 w hw, ?_⟩, hX, hbl, ?_, trivial⟩, hty⟩
  · obtain ⟨j, hj, rfl⟩ := List.mem_map.mp (List.mem_of_getElem? hk)
    exact hg j (List.mem_range.mp hj)
  · exact vx_Zqof (hts _ rSt_lu) (hts _ rSt_in) (hfl _ (by decide +kernel)) (fun a ha => Nat.not_le.mpr ha)
  · exact vx_Zqof (hts _ rSt_ln) (hts _ rSt_in) (hfl _ (by decide +kernel)) (fun a ha => Nat.not_le.mpr ha)
  · exact re_str (hts _ (of_decide_eq_true (List.all_eq_true.mp rSt_str q hq)))
  · have hin : w ∈ lw_tbl := by
      obtain ⟨i, hi⟩ := List.getElem?_of_mem hw
      have hi : (rTW ++ rTWd)[i]? = some w := hi
      have h1 := re_rng rSt_tw (List.getElem?_eq_some_iff.mp hi).1
      have h2 := of_decide_eq_true h1
      rw [hi] at h2
      exact List.mem_of_getElem? h2
    rcases re_o14 w hw with ⟨C, T, rfl⟩ | ⟨a, i, x, z, rfl⟩ | ⟨x, rfl⟩
    · exact va_Nw.of rfl (hts _ hin)
    · exact va_Nw.of rfl (hts _ hin)
    · exact va_Nw.of rfl (hts _ hin)
  · intro x x' h1 h2 hne
    have hx : x = 0 ∨ x = 1 ∨ x = 2 := by omega
    have hx' : x' = 0 ∨ x' = 1 ∨ x' = 2 := by omega
    rcases hx with rfl | rfl | rfl <;> rcases hx' with rfl | rfl | rfl <;> first | exact absurd rfl hne | exact va_Nc.of (hfl _ (by decide +kernel))
