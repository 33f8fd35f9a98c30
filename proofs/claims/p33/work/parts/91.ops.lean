/-! What each call does to what holds. -/
theorem fre_64 {s w : Nat} {n : Int64} {a b c : Tr} (hs : s = 1 → w < 6) (ha : fre a < 64) (hb : fre b < 64) (hc : fre c < 64) : fre (tE s w n a b c) < 64 := by
  rw [fre_E]
  have h1 : (if s = 1 then 2 ^ w else 0) < 2 ^ 6 := by
    split
    next g => exact Nat.pow_lt_pow_right (by decide) (hs g)
    · decide
  exact Nat.or_lt_two_pow (n := 6) (Nat.or_lt_two_pow (n := 6) (Nat.or_lt_two_pow (n := 6) h1 ha) (wo_lt (n := 6) hb)) hc
theorem fre_sub {s w : Nat} {n : Int64} {a b c : Tr} (h : fre (tE s w n a b c) < 64) : fre a < 64 ∧ fre c < 64 ∧ (s = 1 → w < 6) ∧ nb_wo (fre b) (nb_bnd s w) < 64 := by
  rw [fre_E] at h
  have h1 : ∀ k, ((if s = 1 then 2 ^ w else 0) ||| fre a ||| nb_wo (fre b) (nb_bnd s w) ||| fre c).testBit k = true → k < 6 := fun k => bits_lt (n := 6) h k
  refine ⟨lt_of_bits (n := 6) (fun k y => h1 k ?_), lt_of_bits (n := 6) (fun k y => h1 k ?_), fun y => h1 w ?_, lt_of_bits (n := 6) (fun k y => h1 k ?_)⟩
  · rw [Nat.testBit_or, Nat.testBit_or, Nat.testBit_or, y]; simp
  · rw [Nat.testBit_or, y]; simp
  · rw [if_pos y, Nat.testBit_or, Nat.testBit_or, Nat.testBit_or, Nat.testBit_two_pow]; simp
  · rw [Nat.testBit_or, Nat.testBit_or, y]; simp
/-- free names behind a renaming -/
theorem fre_xgd (nm ot : Nat) : ∀ (e : Tr) (i : Nat), (fre (xgd nm ot e)).testBit i = true → (fre e).testBit i = true ∨ i = ot
  | .leaf, i, h => Or.inl h
  | .inner _ _ _ _ .leaf, i, h => Or.inl h
  | .inner k l u a (.inner k2 l2 u2 b c), i, h => by
    have ia := fre_xgd nm ot a
    have ib' := fre_xgd nm ot b
    have ic := fre_xgd nm ot c
    have e0 : fre (.inner k l u a (.inner k2 l2 u2 b c)) = (if l.1 = 1 then 2 ^ l.2.1 else 0) ||| fre a ||| nb_wo (fre b) (nb_bnd l.1 l.2.1) ||| fre c := rfl
    unfold xgd at h
    split at h
    · split at h
      · rw [fre_E, if_pos rfl, Nat.testBit_or, Nat.testBit_or, Nat.testBit_or, Nat.testBit_two_pow] at h
        have z1 : fre .leaf = 0 := rfl
        have z2 : ∀ m, nb_wo 0 m = 0 := fun m => by unfold nb_wo; simp
        rw [z1, z2] at h
        simp at h
        exact Or.inr h.symm
      · rw [fre_E, Nat.testBit_or, Nat.testBit_or, Nat.testBit_or] at h
        rw [e0, Nat.testBit_or, Nat.testBit_or, Nat.testBit_or]
        simp only [Bool.or_eq_true] at h ⊢
        rcases h with ((h | h) | h) | h
        · exact Or.inl (Or.inl (Or.inl (Or.inl h)))
        · exact (ia i h).elim (fun y => Or.inl (Or.inl (Or.inl (Or.inr y)))) Or.inr
        · rw [nb_wo_bit, Bool.and_eq_true] at h
          have hb : (fre b).testBit i = true ∨ i = ot := by
            have h1 := h.1
            split at h1
            · exact Or.inl h1
            · exact ib' i h1
          refine hb.elim (fun y => Or.inl (Or.inl (Or.inr ?_))) Or.inr
          rw [nb_wo_bit, y, h.2]; rfl
        · exact (ic i h).elim (fun y => Or.inl (Or.inr y)) Or.inr
    · exact Or.inl h
theorem fre_xgd64 {nm ot : Nat} {e : Tr} (ho : ot < 6) (h : fre e < 64) : fre (xgd nm ot e) < 64 := lt_of_bits (n := 6) (fun k y => by
  rcases fre_xgd nm ot e k y with g | g
  · exact bits_lt (n := 6) h k g
  · omega)
theorem vgd_up {V : Vr} {m c : Nat} {q : Bool × Cd} (h : vgd V m) (hc : c < m) (h1 : q.1 = false → q.2 = []) (h2 : ∀ x, x ∈ q.2 → cdk x.2 ∧ x.1 < 6 ∧ fre x.2 < 64) (h3 : (q.2.map (fun x => x.1)).Nodup) (h4 : q.2.length ≤ 4) : vgd (vup V c q) m := by
  obtain ⟨a1, a2, a3⟩ := h
  refine ⟨fun x hx ht => ?_, fun x hx => ?_, fun x hx => ?_⟩
  · unfold vup at ht ⊢
    split
    next g => rw [if_pos g] at ht; exact h1 ht
    next g => rw [if_neg g] at ht; exact a1 x hx ht
  · unfold vup
    split
    · exact ⟨h2, h3, h4⟩
    · exact a2 x hx
  · unfold vup
    rw [if_neg (by omega)]
    exact a3 x hx
theorem pof_iff {nm : Nat} : ∀ {C : Cd}, pof nm C = none ↔ ¬ nm ∈ C.map (fun q => q.1)
  | [] => ⟨fun _ y => (by cases y), fun _ => rfl⟩
  | q :: r => by
    rw [pof_cons, List.map_cons, List.mem_cons]
    split
    next g => exact ⟨fun y => (by cases y), fun y => absurd (Or.inl g.symm) y⟩
    next g =>
      rw [Option.map_eq_none_iff, pof_iff (C := r)]
      exact ⟨fun y z => z.elim (fun z => g z.symm) y, fun y z => y (Or.inr z)⟩
theorem set_names {C : Cd} {i nm : Nat} {e e0 : Tr} (h : C[i]? = some (nm, e0)) : (C.set i (nm, e)).map (fun q => q.1) = C.map (fun q => q.1) := by
  refine List.ext_getElem? (fun j => ?_)
  rw [List.getElem?_map, List.getElem?_map]
  rcases Nat.decEq j i with hne | rfl
  · rw [List.getElem?_set_ne (fun y => hne y.symm)]
  · rw [List.getElem?_set_self (List.getElem?_eq_some_iff.mp h).1, h]
    rfl
theorem nodup_ix {l : List Nat} {x : Nat} : ∀ {i j : Nat}, l.Nodup → l[i]? = some x → l[j]? = some x → i = j := by
  intro i j h hi hj
  rw [List.Nodup, List.pairwise_iff_getElem] at h
  obtain ⟨a1, a2⟩ := List.getElem?_eq_some_iff.mp hi
  obtain ⟨b1, b2⟩ := List.getElem?_eq_some_iff.mp hj
  rcases Nat.lt_trichotomy i j with g | g | g
  · exact absurd (a2.trans b2.symm) (h i j a1 b1 g)
  · exact g
  · exact absurd (b2.trans a2.symm) (h j i b1 a1 g)
theorem cput_ok {C : Cd} {nm : Nat} {e : Tr} (h : (C.map (fun q => q.1)).Nodup) (hl : C.length ≤ 4) (hr : pof nm C = none → C.length < 4) : ((cput C nm e).map (fun q => q.1)).Nodup ∧ (cput C nm e).length ≤ 4 ∧ 1 ≤ (cput C nm e).length := by
  unfold cput
  split
  next i hi =>
    obtain ⟨h1, e0, h2⟩ := pof_some hi
    rw [set_names h2, List.length_set]
    exact ⟨h, hl, by omega⟩
  next hi =>
    have := hr hi
    rw [List.map_append, List.length_append]
    refine ⟨List.nodup_append.mpr ⟨h, by simp, fun a ha b hb y => ?_⟩, by show C.length + 1 ≤ 4; omega, by show 1 ≤ C.length + 1; omega⟩
    subst y
    rcases List.mem_singleton.mp hb with y
    have y : a = nm := y
    rw [y] at ha
    exact pof_iff.mp hi ha
theorem erase_ok {C : Cd} {nm i : Nat} (h : (C.map (fun q => q.1)).Nodup) (hi : pof nm C = some i) : ((C.eraseIdx i).map (fun q => q.1)).Nodup ∧ pof nm (C.eraseIdx i) = none ∧ (C.eraseIdx i).length + 1 = C.length := by
  obtain ⟨h1, e0, h2⟩ := pof_some hi
  have hs := (List.eraseIdx_sublist C i).map (fun q => q.1)
  refine ⟨hs.nodup h, ?_, ?_⟩
  · rw [pof_iff]
    intro y
    obtain ⟨q, y1, y2⟩ := List.mem_map.mp y
    obtain ⟨j, hj⟩ := List.getElem?_of_mem y1
    rw [List.getElem?_eraseIdx] at hj
    have key : ∀ j', C[j']? = some q → ¬ j' = i → False := fun j' hj' hne => by
      have e1 : (C.map (fun q => q.1))[j']? = some nm := by rw [List.getElem?_map, hj']; exact congrArg some y2
      have e2 : (C.map (fun q => q.1))[i]? = some nm := by rw [List.getElem?_map, h2]; rfl
      have l1 := (List.getElem?_eq_some_iff.mp e1)
      have l2 := (List.getElem?_eq_some_iff.mp e2)
      exact hne (nodup_ix h e1 e2)
    split at hj
    next g => exact key j hj (by omega)
    next g => exact key (j + 1) hj (by omega)
  · rw [List.length_eraseIdx]
    rw [if_pos h1]
    omega
theorem dfd_in {C : Cd} {q : Nat × Tr} (h : q ∈ C) : (dfd C).testBit q.1 = true := fold_in (fun q => 2 ^ q.1) C 0 q h q.1 (by rw [Nat.testBit_two_pow]; simp)
theorem vmn_f {V : Vr} {ot c : Nat} (hc : c < 12) (h : ¬ vmn V ot 12 = true) : ∀ q, q ∈ (V c).2 → ¬ q.1 = ot := fun q hq y => by
  apply h
  have h1 := dfd_in hq
  have h2 : (mnt (V c).2).testBit ot = true := by
    have := fold_up (fun q => men q.2) (V c).2 (dfd (V c).2) q.1 h1
    rw [y] at this
    exact this
  have h3 : vmn V ot (c + 1) = true := by
    show (vmn V ot c || (mnt (V c).2).testBit ot) = true
    rw [h2, Bool.or_true]
  exact vmn_up h3 hc
theorem vgd_xg {V : Vr} {m nm ot : Nat} (h : vgd V m) (ho : ot < 6) (hm : ¬ vmn V ot 12 = true) : vgd (vxg nm ot V 12) m := by
  obtain ⟨a1, a2, a3⟩ := h
  refine ⟨fun c hc ht => ?_, fun c hc => ?_, fun c hc => ?_⟩
  · unfold vxg at ht ⊢
    rw [if_pos hc] at ht ⊢
    show cxg nm ot (V c).2 = []
    rw [a1 c hc ht]
    rfl
  · have e : (vxg nm ot V 12 c).2 = cxg nm ot (V c).2 := by unfold vxg; rw [if_pos hc]
    obtain ⟨b1, b2, b3⟩ := a2 c hc
    rw [e]
    refine ⟨fun q hq => ?_, ?_, ?_⟩
    · obtain ⟨y, y1, rfl⟩ := List.mem_map.mp (show q ∈ ((V c).2).map _ from hq)
      obtain ⟨k1, k2, k3⟩ := b1 y y1
      obtain ⟨x1, x2⟩ := xgd_ok nm ot (by omega) y.2 k1.1 k1.2
      refine ⟨⟨x1, x2⟩, ?_, fre_xgd64 ho k3⟩
      show (if y.1 = nm then ot else y.1) < 6
      split
      · exact ho
      · exact k2
    · have hn := vmn_f hc hm
      show (((V c).2.map (fun q => (if q.1 = nm then ot else q.1, xgd nm ot q.2))).map (fun q => q.1)).Nodup
      rw [List.map_map]
      have e2 : ((fun q : Nat × Tr => q.1) ∘ fun q : Nat × Tr => (if q.1 = nm then ot else q.1, xgd nm ot q.2)) = (fun q : Nat × Tr => if q.1 = nm then ot else q.1) := rfl
      rw [e2]
      rw [List.Nodup, List.pairwise_map] at b2 ⊢
      refine b2.imp_of_mem (fun {a b'} ha hb hne => ?_)
      intro y
      apply hne
      have h1 := hn a ha
      have h2 := hn b' hb
      split at y
      next g1 =>
        split at y
        next g2 => exact g1.trans g2.symm
        next g2 => exact absurd y.symm h2
      next g1 =>
        split at y
        next g2 => exact absurd y h1
        next g2 => exact y
    · show (((V c).2).map _).length ≤ 4
      rw [List.length_map]
      exact b3
  · unfold vxg
    split
    · rw [a3 c hc]
      rfl
    · exact a3 c hc
section IO
variable {A : Nb} {bh : Nat}
/-- the pile alone is another one -/
theorem inv_pile {P : List Tr} (h : inv A bh) (hP : ∀ e, e ∈ P → cdk e ∧ fre e < 64) : inv (P, A.2) bh := by
  obtain ⟨⟨h1, h2, -, h4⟩, h5⟩ := h
  exact ⟨⟨h1, h2, hP, h4⟩, h5⟩
theorem inv1_cell (h : inv1 A bh) (hm : nM A < 12) : inv1 (aCell A) bh := by
  obtain ⟨⟨v1, v2, v3⟩, h2, h3, h4, h5, h6, h7, h8, h9, h10, h11, h12, h13⟩ := h
  have e0 := v3 (nM A) (Nat.le_refl _)
  refine ⟨⟨fun x hx ht => ?_, fun x hx => ?_, fun x hx => ?_⟩, fun U hU => ?_, h3, h4, h5, h6, h7, h8, hm, h10, h11, h12, fun c hc ht => h13 c hc ?_⟩
  · have ht : (vup (nV A) (nM A) (true, ((nV A) (nM A)).2) x).1 = false := ht
    show (vup (nV A) (nM A) (true, ((nV A) (nM A)).2) x).2 = []
    unfold vup at ht ⊢
    split
    next g => rw [if_pos g] at ht; cases ht
    next g => rw [if_neg g] at ht; exact v1 x hx ht
  · have e : ((nV (aCell A)) x).2 = ((nV A) x).2 := by
      show (vup (nV A) (nM A) (true, ((nV A) (nM A)).2) x).2 = _
      unfold vup
      split
      next g => rw [g]
      · rfl
    rw [e]
    exact v2 x hx
  · have hx : nM A + 1 ≤ x := hx
    show vup (nV A) (nM A) (true, ((nV A) (nM A)).2) x = _
    unfold vup
    rw [if_neg (by omega)]
    exact v3 x (by omega)
  · obtain ⟨u1, u2, u3⟩ := h2 U hU
    exact ⟨u1, u2, fun c hc => u3 c (by have hc : nM A + 1 ≤ c := hc; omega)⟩
  · have ht : (vup (nV A) (nM A) (true, ((nV A) (nM A)).2) c).1 = false := ht
    unfold vup at ht
    split at ht
    · cases ht
    · exact ht
theorem cell_lt (h : inv1 A bh) {c : Nat} (ht : ((nV A) c).1 = true) : c < nM A := by
  rcases Nat.lt_or_ge c (nM A) with g | g
  · exact g
  · rw [h.1.2.2 c g] at ht; cases ht
theorem inv1_def {c nm : Nat} (h : inv1 A bh) (hc : c < 12) (hn : nm < 6) (ht : ((nV A) c).1 = true) (hd : ¬ noDef A c nm) (hP : ¬ nP A = []) : inv1 (aDef A c nm) bh := by
  have hcm := cell_lt h ht
  obtain ⟨h1, h2, h3, h4, h5, h6, h7, h8, h9, h10, h11, h12, h13⟩ := h
  obtain ⟨b1, b2, b3⟩ := h1.2.1 c hc
  have hk := cput_ok (e := tp (nP A)) b2 b3 (nm := nm) (fun y => by
    rcases Nat.lt_or_ge ((nV A) c).2.length 4 with g | g
    · exact g
    · exact absurd (Or.inr ⟨y, g⟩) hd)
  obtain ⟨P0, e, he⟩ := last1 (P := nP A) (by rcases Nat.eq_zero_or_pos (nP A).length with y | y; exact absurd (List.length_eq_zero_iff.mp y) hP; exact y)
  have heP : tp (nP A) = e := by rw [he, tp_app]
  have heM : e ∈ nP A := by rw [he]; simp
  refine ⟨vgd_up h1 hcm (fun y => by rw [ht] at y; cases y) (fun x hx => ?_) hk.1 hk.2.1, h2, fun e' y => h3 e' ((List.dropLast_sublist _).mem y), h4, h5, h6, h7, h8, h9, h10, h11, h12, fun x hx hf => h13 x hx ?_⟩
  · rcases cput_mem hx with y | y
    · exact b1 x y
    · rw [y]
      refine ⟨?_, hn, ?_⟩
      · show cdk (tp (nP A)); rw [heP]; exact (h3 e heM).1
      · show fre (tp (nP A)) < 64; rw [heP]; exact (h3 e heM).2
  · have hf : (vup (nV A) c (((nV A) c).1, _) x).1 = false := hf
    unfold vup at hf
    split at hf
    next g => rw [g]; exact hf
    · exact hf
theorem inv1_drp {c nm i : Nat} (h : inv1 A bh) (hc : c < 12) (ht : ((nV A) c).1 = true) (hi : pof nm ((nV A) c).2 = some i) : inv1 (aDrp A c i) bh := by
  have hcm := cell_lt h ht
  obtain ⟨h1, h2, h3, h4, h5, h6, h7, h8, h9, h10, h11, h12, h13⟩ := h
  obtain ⟨b1, b2, b3⟩ := h1.2.1 c hc
  obtain ⟨k1, k2, k3⟩ := erase_ok b2 hi
  refine ⟨vgd_up h1 hcm (fun y => by rw [ht] at y; cases y) (fun x hx => b1 x ((List.eraseIdx_sublist _ _).mem hx)) k1 (by show (((nV A) c).2.eraseIdx i).length ≤ 4; omega), h2, h3, h4, h5, h6, h7, h8, h9, h10, h11, h12, fun x hx hf => h13 x hx ?_⟩
  have hf : (vup (nV A) c (((nV A) c).1, _) x).1 = false := hf
  unfold vup at hf
  split at hf
  next g => rw [g]; exact hf
  · exact hf
theorem Rok_fgt {F : Nat → Tr} {G : Gh} {B : Nat} {RR : Nat → Rs} {c : Nat} (h : Rok F G B bh RR) : Rok F G B bh (fgt RR c) := fun i hi => by
  unfold fgt
  split
  · exact ⟨Or.inl ⟨Or.inl rfl, rfl⟩, fun n v y => by cases y⟩
  · exact h i hi
theorem fgt_r {RR : Nat → Rs} {c T : Nat} (h : ∀ i, i < 24 → (RR i).2.1 ≤ T) : ∀ i, i < 24 → (fgt RR c i).2.1 ≤ T := fun i hi => by
  unfold fgt
  split
  · exact Nat.zero_le _
  · exact h i hi
theorem inv1_rem {c : Nat} (h : inv1 A bh) (hc : c < 12) (ht : ((nV A) c).1 = true) : inv1 (aRem A c) bh := by
  have hcm := cell_lt h ht
  obtain ⟨h1, h2, h3, h4, h5, ⟨F, G, h6⟩, h7, h8, h9, h10, h11, h12, h13⟩ := h
  refine ⟨vgd_up h1 hcm (fun _ => rfl) (fun x hx => by cases hx) List.nodup_nil (by show 0 ≤ 4; omega), h2, h3, h4, h5, ⟨F, G, Rok_fgt h6⟩, h7, h8, h9, h10, h11, fgt_r h12, fun x hx hf => ?_⟩
  have hf : (vup (nV A) c (false, []) x).1 = false := hf
  show (fgt (nY A).1 c x).1 = -1 ∧ rK (fgt (nY A).1 c x) = []
  unfold vup at hf
  unfold fgt
  split
  · exact ⟨rfl, rfl⟩
  next g => rw [if_neg g] at hf; exact h13 x hx hf
theorem inv1_ren {nm ot : Nat} (h : inv1 A bh) (ho : ot < 6) (hm : ¬ vmn (nV A) ot 12 = true) : inv1 (aRen A nm ot) bh := by
  obtain ⟨h1, h2, h3, h4, h5, h6, h7, h8, h9, h10, h11, h12, h13⟩ := h
  refine ⟨vgd_xg h1 ho hm, h2, h3, h4, h5, h6, h7, h8, h9, h10, h11, h12, fun x hx hf => h13 x hx ?_⟩
  have hf : (vxg nm ot (nV A) 12 x).1 = false := hf
  unfold vxg at hf
  rw [if_pos hx] at hf
  exact hf
theorem inv1_tk {c : Nat} {U : Vr} (h : inv1 A bh) (hU : U ∈ nB A) (hc : c < nM A) : inv1 (aTk A U c) bh := by
  have h9' : nM A ≤ 12 := h.2.2.2.2.2.2.2.2.1
  obtain ⟨h1, h2, h3, h4, h5, ⟨F, G, h6⟩, h7, h8, h9, h10, h11, h12, h13⟩ := h
  obtain ⟨u1, u2, u3⟩ := h2 U hU
  obtain ⟨b1, b2, b3⟩ := u2 c (by omega)
  refine ⟨vgd_up h1 hc (fun y => u1 c (by omega) y) b1 b2 b3, h2, h3, h4, h5, ⟨F, G, ?_⟩, h7, h8, h9, h10, h11, ?_, fun x hx hf => ?_⟩
  · show Rok F G _ bh (tkR A U c)
    unfold tkR
    split
    · exact h6
    · exact Rok_fgt h6
  · show ∀ i, i < 24 → (tkR A U c i).2.1 ≤ _
    unfold tkR
    split
    · exact h12
    · exact fgt_r h12
  · have hf : (vup (nV A) c (U c) x).1 = false := hf
    show (tkR A U c x).1 = -1 ∧ rK (tkR A U c x) = []
    unfold vup at hf
    unfold tkR
    split at hf
    next g =>
      subst g
      split
      next g2 => exact h13 x hx (g2.trans hf)
      · unfold fgt
        rw [if_pos rfl]
        exact ⟨rfl, rfl⟩
    next g =>
      split
      · exact h13 x hx hf
      · unfold fgt
        rw [if_neg g]
        exact h13 x hx hf
theorem inv1_inp {n j : Nat} (h : inv1 A bh) (hj : j < 4) : inv1 (aInp A n (Int64.ofNat j)) bh := by
  obtain ⟨h1, h2, h3, h4, h5⟩ := h
  refine ⟨h1, h2, h3, fun k hk => ?_, h5⟩
  show ∃ j', j' < 4 ∧ (if k = n then Int64.ofNat j else nIp A k) = Int64.ofNat j'
  split
  · exact ⟨j, hj, rfl⟩
  · exact h4 k hk
theorem inv1_sed {j : Nat} (h : inv1 A bh) (hj : j < 3) : inv1 (aSed A (i32 j)) bh := by
  obtain ⟨h1, h2, h3, h4, -, h6⟩ := h
  exact ⟨h1, h2, h3, h4, ⟨j, hj, rfl⟩, h6⟩
theorem Rok_b {F : Nat → Tr} {G : Gh} {B bh' : Nat} {RR : Nat → Rs} (h : Rok F G B bh RR) (hb : bh' = bh ∨ bh' = 1) : Rok F G B bh' RR := by
  rcases hb with rfl | rfl
  · exact h
  · exact Rok_1 h
theorem inv1_mod {o bh' : Nat} (h : inv1 A bh) (ho : o ≤ 2) (hb : bh' = if o = 2 then 1 else bh) : inv1 (aMod A o) bh' := by
  obtain ⟨h1, h2, h3, h4, h5, ⟨F, G, h6⟩, h7, h8, h9⟩ := h
  refine ⟨h1, h2, h3, h4, h5, ⟨F, G, Rok_b h6 ?_⟩, fun y => ?_, ho, h9⟩
  · split at hb
    · exact Or.inr hb
    · exact Or.inl hb
  · have y : o = 2 := y
    rw [hb, if_pos y]
theorem inv_kp (h : inv A bh) (hl : (nB A).length < 4) : inv (aKp A) bh := by
  obtain ⟨⟨h1, h2, h3, h4, h5, h6, h7, h8, h9, h10, h11⟩, h12⟩ := h
  refine ⟨⟨h1, fun U hU => ?_, h3, h4, h5, h6, h7, h8, h9, ?_, h11⟩, h12⟩
  · rcases List.mem_append.mp (show U ∈ nB A ++ [kpV (nV A)] from hU) with y | y
    · exact h2 U y
    · rw [List.mem_singleton.mp y]
      obtain ⟨v1, v2, v3⟩ := h1
      refine ⟨fun c hc ht => ?_, fun c hc => ?_, fun c hc => ?_⟩
      · unfold kpV at ht ⊢
        rw [if_pos hc] at ht ⊢
        exact v1 c hc ht
      · unfold kpV
        rw [if_pos hc]
        exact v2 c hc
      · unfold kpV
        split
        · exact v3 c hc
        · rfl
  · show (nB A ++ [kpV (nV A)]).length ≤ 4
    rw [List.length_append]
    show (nB A).length + 1 ≤ 4
    omega
/-- by hand -/
theorem inv_R {c : Nat} (h : inv A bh) (ho : nO A = 2) (hc : c < 12) (ht : ((nV A) c).1 = true) : inv (aR A c) bh := by
  obtain ⟨⟨h1, h2, h3, h4, h5, ⟨F, G, h6⟩, h7, h8, h9, h10, h11, h12, h13⟩, h14⟩ := h
  have hb := h7 ho
  obtain ⟨F', G', k1, k2⟩ := Rok_on (F := F) (G := G) (bh := bh) (I := nIp A) (sd := nS A) (Y := nY A) h11 hc (vgd_c h1 c hc) h6 (fun _ y => by omega)
  refine ⟨⟨h1, h2, h3, h4, h5, ⟨F', G', k2⟩, h7, h8, h9, h10, ?_, fun i hi => ?_, fun x hx hf => ?_⟩, fun y => ?_⟩
  · show 0 < (rOn _ _ _ _ _ _).2.2
    rw [rOn_T]; omega
  · show ((rOn (nV A) (nIp A) (nS A) 0 c (nY A)).1 i).2.1 ≤ (rOn (nV A) (nIp A) (nS A) 0 c (nY A)).2.2
    rw [rOn_T]
    have := h12 i hi
    rcases Nat.decEq i (0 + c) with hne | rfl
    · rw [rOn_o hne]; omega
    · rw [rOn_runs]
      have h1 : rOr (nV A) c ≤ 1 := by unfold rOr; split <;> omega
      omega
  · have hf : ((nV A) x).1 = false := hf
    have hne : ¬ x = 0 + c := fun y => by rw [y, Nat.zero_add, ht] at hf; cases hf
    show ((rOn (nV A) (nIp A) (nS A) 0 c (nY A)).1 x).1 = -1 ∧ rK ((rOn (nV A) (nIp A) (nS A) 0 c (nY A)).1 x) = []
    rw [rOn_o hne]
    exact h13 x hx hf
  · have y : nO A = 0 := y
    omega
/-- found anew: nothing else changes -/
theorem inv_A (h : inv A bh) : inv (aA A) bh ∧ anw0 (nV A) (nIp A) (nS A) (fun i => (nY (aA A)).1 (12 + i)) ∧ (∀ i, i < 12 → (nY (aA A)).1 i = (nY A).1 i) ∧ ano (aA A) 12 ∧ (nY (aA A)).2.2 ≤ (nY A).2.2 + 12 := by
  obtain ⟨⟨h1, h2, h3, h4, h5, ⟨F, G, h6⟩, h7, h8, h9, h10, h11, h12, h13⟩, h14⟩ := h
  obtain ⟨a1, a2, a3⟩ := anew_main (V := nV A) (I := nIp A) (sd := nS A) (RR := (nY A).1) (Z := (nY A).2)
  have hr : ∀ i, i < 24 → (fga (nY A).1 12 12 i).2.1 ≤ (nY A).2.2 := fun i hi => by
    rcases Nat.lt_or_ge i 12 with g | g
    · rw [(fga_i 12 i).1 g]; exact h12 i hi
    · have : ∀ n, (fga (nY A).1 12 n i).2.1 ≤ (nY A).2.2 := fun n => by
        induction n with
        | zero => exact h12 i hi
        | succ n ih =>
          show (fgt (fga (nY A).1 12 n) (12 + n) i).2.1 ≤ _
          unfold fgt
          split
          · exact Nat.zero_le _
          · exact ih
      exact this 12
  obtain ⟨l1, l2, l3, l4, l5, l6⟩ := stl_L (V := nV A) (I := nIp A) (sd := nS A) (w := 4095) (st0 := 12) (Y := (fga (nY A).1 12 12, (nY A).2)) h11 (vgd_c h1) hr
  have e1 : ∀ i, i < 12 → (nY (aA A)).1 i = (nY A).1 i := a2
  refine ⟨⟨⟨h1, h2, h3, h4, h5, ⟨F, G, fun i hi => ?_⟩, h7, h8, h9, h10, l3, l4, fun c hc ht => ?_⟩, fun y c hc => ?_⟩, a1, e1, ?_, l2⟩
  · rw [e1 i hi]
    exact rok_up (B := (nY A).2.1) a3 (fun _ _ => rfl) (fun _ _ => rfl) (h6 i hi)
  · rw [e1 c hc]; exact h13 c hc ht
  · have e : stl8 (aA A) = stl8 A := by
      unfold stl8
      have : stA (nV A) (nY (aA A)).1 0 (nIp A) (nS A) 12 = stA (nV A) (nY A).1 0 (nIp A) (nS A) 12 := by
        refine Nat.eq_of_testBit_eq (fun i => ?_)
        rw [stA_bit, stA_bit]
        by_cases hi : i < 12
        · have : sti (nV A) (nY (aA A)).1 0 (nIp A) (nS A) i = sti (nV A) (nY A).1 0 (nIp A) (nS A) i := sti_cong (by rw [Nat.zero_add]; exact e1 i hi) (fun _ n hn hb => vin_same hn hb (fun c' hd => by rw [Nat.zero_add]; exact e1 c' (dim_12 hd)))
          rw [this]
        · rw [decide_eq_false hi]
          rfl
      show stC (nV A) (stA (nV A) (nY (aA A)).1 0 (nIp A) (nS A) 12) 12 = _
      rw [this]
    rw [e]
    exact h14 y c hc
  · obtain ⟨L', k1, k2, k3⟩ := l1 [] (by simp) (fun c hc n v hm => by
      rw [((fga_i 12 (12 + c)).2 (by omega) (by omega)).2] at hm
      cases hm)
    have hs : (stl (nV A) (nIp A) (nS A) 12 4095 (fga (nY A).1 12 12, (nY A).2)).2.1 ≤ 12 := by
      have step : ∀ c S, c < 12 → (S.2.1 + pc12 S.1 ≤ 12) → S.1.testBit c = true → (wr (nV A) c = 0 → ∀ c', (dim (nV A) c 16).testBit c' = true → S.1.testBit c' = false) → ((stS (nV A) (nIp A) (nS A) 12 c S).2.1 + pc12 (stS (nV A) (nIp A) (nS A) 12 c S).1 ≤ 12) := fun c S hc hj hb _ => by
        have hpc := pc_wo hc hb
        have h1 : rOr (nV A) c ≤ 1 := by unfold rOr; split <;> omega
        unfold stS
        split
        · split
          · show S.2.1 + rOr (nV A) c + pc12 (nb_wo S.1 (2 ^ c)) ≤ 12
            omega
          · show S.2.1 + pc12 (nb_wo S.1 (2 ^ c)) ≤ 12
            omega
        · exact hj
      have := (stl_ind (V := nV A) (I := nIp A) (sd := nS A) (st0 := 12) (w := 4095) (Y := (fga (nY A).1 12 12, (nY A).2)) (fun S => S.2.1 + pc12 S.1 ≤ 12) (by have := pc_le (4095 &&& vcl (nV A) 12); show 0 + pc12 (4095 &&& vcl (nV A) 12) ≤ 12; omega) step).1
      omega
    exact ⟨L', by simp at k1; omega, k2, k3⟩
end IO
