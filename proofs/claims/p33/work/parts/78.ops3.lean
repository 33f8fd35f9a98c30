/-! Cellbrook: drop, remove, rename, setInput, seed, mode, run. -/
theorem xgd_ok (nm ot : Nat) (ho : ot < 16) : ∀ e : Tr, wE e = true → inps e < 16 → wE (xgd nm ot e) = true ∧ inps (xgd nm ot e) < 16
  | .leaf, h, hi => ⟨h, hi⟩
  | .inner _ _ _ _ .leaf, h, _ => by cases h
  | .inner k l u a (.inner k2 l2 u2 b c), h, hi => by
    have h0 := h
    have hi0 := hi
    obtain ⟨h1, h2⟩ := inps_le (sr := l.1) (w := l.2.1) (n := l.2.2) (a := a) (b := b) (c := c) hi
    unfold wE at h
    simp only [Bool.and_eq_true, beq_iff_eq, decide_eq_true_eq] at h
    obtain ⟨⟨⟨⟨⟨⟨⟨e1, e2⟩, e3⟩, e4⟩, e5⟩, e6⟩, e7⟩, e8⟩ := h
    have ia := xgd_ok nm ot ho a e6 h1
    have ib' := xgd_ok nm ot ho b e7 h2.1
    have ic := xgd_ok nm ot ho c e8 h2.2.1
    unfold xgd
    split
    · split
      · exact ⟨wE_E.mpr ⟨⟨by omega, ho⟩, rfl, rfl, rfl⟩, inps_16 (fun y => by cases y) (by decide) (by decide) (by decide)⟩
      · have hb : wE (if l.1 = 6 ∧ l.2.1 = nm then b else xgd nm ot b) = true ∧ inps (if l.1 = 6 ∧ l.2.1 = nm then b else xgd nm ot b) < 16 := by
          split
          · exact ⟨e7, h2.1⟩
          · exact ib'
        exact ⟨wE_E.mpr ⟨⟨e4, e5⟩, ia.1, hb.1, ic.1⟩, inps_16 h2.2.2 ia.2 hb.2 ic.2⟩
    · exact ⟨h0, hi0⟩
theorem lrd_fgt {RR : Nat → Rs} {i r : Nat} (h : lrd (fgt RR i) r) : lrd RR r := by
  obtain ⟨j, n, v, hj, hm, hr⟩ := h
  unfold fgt at hm
  split at hm
  · cases hm
  · exact ⟨j, n, v, hj, hm, hr⟩
theorem rmL_fgt {RR : Nat → Rs} {i W : Nat} (h : rmL RR W) : rmL (fgt RR i) W := by
  obtain ⟨L, h1, h2, h3⟩ := h
  exact ⟨L, h1, h2, fun r y => h3 r (lrd_fgt y)⟩
theorem mwf_fgt {V : Vr} {RR : Nat → Rs} {i : Nat} (h : mwf V RR) : mwf V (fgt RR i) := ⟨h.1, fun j n v y => by
  unfold fgt at y
  split at y
  · cases y
  · exact h.2 j n v y⟩
section P3
variable {SC : List Value} {d q : Nat} {h : re_H} {Q : Nat → Value → re_H → Prop} {b ff W : Nat} {A : Nb} {N : List Nat}
theorem NB_m (z : NB h b A N ff W) : mwf (nV A) (nY A).1 := z.2.2.2.2.2.2.2.2.1
theorem NB_md (z : NB h b A N ff W) : nM A ≤ 12 ∧ nO A ≤ 2 := z.2.2.2.2.2.2.2.1
theorem NB_sh (z : NB h b A N ff W) : shc h (b + 298) (b + 2) (b + 41) (b + 292) (b + 50) 0 := (nbx_bf z.2.2.2.1).1.2.2.2.2.1
theorem NB_top (z : NB h b A N ff W) : b + 300 < h.1 := (nbx_bf z.2.2.2.1).2
/-- a definition is taken out -/
def aDrp (A : Nb) (c i : Nat) : Nb := (nP A, vup (nV A) c (((nV A) c).1, ((nV A) c).2.eraseIdx i), nM A, nIp A, nS A, nO A, nB A, nY A)
theorem c20 {c nm : Nat} (hc : c < 12) (hn : nm < 16) (ht : ((nV A) c).1 = true) (z : NB h b A N ff W) (hL : rmL (nY A).1 W) (hff : ff + 40000 < 2 ^ 62) (hW : W ≤ 400000) (Kx : pof nm ((nV A) c).2 = none → 0 < q ∧ Q 4 .null h) (K : ∀ i, pof nm ((nV A) c).2 = some i → ∀ h' N', NB h' b (aS (aDrp A c i) (cao (nO A))) N' (ff + 36000) W → ofr b 0 h N h' N' → Q 1 (.int (i32 (((nV A) c).2.eraseIdx i).length)) h') : wp SC 20 (d + 35) q 0 [(0, .ref b), (1, .int (i32 c)), (2, .int (i32 nm))] [] h Q := by
  obtain ⟨h12, ho2⟩ := NB_md z
  have hl := NB_top z
  have v0 := NB_vr z
  have cc := v0.2.2.2 c hc
  have hcar : nb_ar h (b + 2 + 2) 104 (i32 c) (.ref (b + 2 + 3 + 3 * c)) := ⟨_, c, v0.2.2.1, rfl, by omega, lst_get (fun i => .ref (b + 2 + 3 + 3 * i)) hc⟩
  obtain ⟨cw, cc0⟩ := cd_hg cc
  obtain ⟨ns, es, ccr, -, -, ccc⟩ := id cc
  have hpl : ∀ i, pof nm ((nV A) c).2 = some i → i < 2147483648 := fun i y => by have := (pof_some y).1; have := ccc.1; omega
  refine B20_0 z.1 rfl (s1 := 0) (s2 := q) (by omega) (c19 hc ht z.1 v0 (ret0 (B20_5 z.1 rfl (s1 := 0) (s2 := q) (by omega) (c5 hn (ret0 (B20_10 ⟨_, z.1, rfl⟩ ⟨_, v0.1, rfl⟩ hcar cc0 rfl (c135 hn cc (ret1 (B20_25 (fun g => ?_) (fun g => ?_))))))))))
  rotate_left
  · obtain ⟨k1, k2⟩ := Kx ((oI_neg hpl).mp g)
    exact B20_32 k1 k2
  obtain ⟨i, hi⟩ : ∃ i, pof nm ((nV A) c).2 = some i := by
    cases hp : pof nm ((nV A) c).2 with
    | some i => exact ⟨i, rfl⟩
    | none => exact absurd ((oI_neg hpl).mpr hp) g
  have K := K i hi
  rw [hi]
  refine B20_42 cc0 rfl (c137 cc (pof_some hi).1 (fun h1 cc1 m1 => ret0 ?_))
  have v1 := vr_cd v0 hc cc1 m1
  have p1 : ph h1 b (nP A) (nM A) (nO A) (nB A).length := ph_fr (m1.1.2 _ (by omega) (fun y => by unfold in3 at y; omega)) (m1.1.2 _ (by omega) (fun y => by unfold in3 at y; omega)) (fun e' v' y => ex_xk m1.2.1 y) (NB_ph z)
  have lk1 : re_hg h1 (b + 41) = re_hg h (b + 41) := m1.1.2 _ (by omega) (fun y => by unfold in3 at y; omega)
  refine B20_48 ⟨_, p1.1, rfl⟩ (lk1.trans (lk_c (NB_lk z))) rfl (wp_up (d := d + 2) (by omega) (Nat.le_refl _) (fol (RR' := (nY A).1) z m1 (fun a y => ⟨?_, ?_, ?_, ?_, ?_⟩) p1 h12 v1 (vwf_up (NB_m z).1 ?_) (NB_m z) (fun e' y => y) (ra_0 z m1 (fun a y => ?_)) (fun h3 z3 o3 => ret0 ?_)))
  all_goals try (unfold in3 at y; first | (unfold inN; omega) | (unfold inL; omega) | (unfold inX; omega) | omega)
  · intro x hx
    exact (NB_m z).1 c hc x ((List.eraseIdx_sublist _ _).mem hx)
  refine B20_55 ⟨_, z3.1, rfl⟩ z3.1 rfl (c17 z3.1 ho2 (ret1 (B20_63 (NB_sh z3) rfl (sv (cao_lt _) z3 hL hff hW (fun h' N' z4 o4 _ => ret1 ?_)))))
  obtain ⟨ns9, es9, cr9, -⟩ := (NB_vr z4).2.2.2 c hc
  have e9 : (nV (aS (nP A, vup (nV A) c (((nV A) c).1, ((nV A) c).2.eraseIdx i), nM A, nIp A, nS A, nO A, nB A, ((nY A).1, (nY A).2)) (cao (nO A))) c).2 = ((nV A) c).2.eraseIdx i := by
    show (vup (nV A) c (((nV A) c).1, ((nV A) c).2.eraseIdx i) c).2 = _
    unfold vup
    rw [if_pos rfl]
  rw [e9] at cr9
  exact B20_66 ⟨_, cr9.1, rfl⟩ (K h' N' z4 (ofr_tr o3 o4 (Nat.le_refl _)))
theorem c521r {c sh st0 vb lb m ra : Nat} {RR : Nat → Rs} {E : Ev} (hc : c < 12) (h0 : st0 + 12 ≤ 24) (zs : shc h sh vb lb m ra st0) (za : rall h E ra RR) (hh : hld h E) (K : ∀ h', rs h' E (ra + 1 + 10 * (st0 + c)) (-1, 0, [], [], rI (RR (st0 + c)), rS (RR (st0 + c)), rW (RR (st0 + c))) → mo (inR (ra + 1 + 10 * (st0 + c))) 0 h h' → (∀ x, E.2.2.1 x → re_hg h' x = re_hg h x) → Q 0 .null h') : wp SC 521 (d + 2) q 0 [(0, .ref sh), (1, .int (i32 c))] [] h Q := by
  have zr := za.2 (st0 + c) (by omega)
  exact B521_0 zs rfl (c515 zs za (by omega) (ret3 (B521_5 (rs_0 zr) rfl (c332 hh zr (fun h' zr' mm hk => ret0 (B521_8 (K h' zr' mm hk)))))))
/-- a cell is removed -/
def aRem (A : Nb) (c : Nat) : Nb := (nP A, vup (nV A) c (false, []), nM A, nIp A, nS A, nO A, nB A, (fgt (nY A).1 c, (nY A).2))
theorem c21 {c : Nat} (hc : c < 12) (ht : ((nV A) c).1 = true) (z : NB h b A N ff W) (hL : rmL (nY A).1 W) (hff : ff + 40000 < 2 ^ 62) (hW : W ≤ 400000) (K : ∀ h' N', NB h' b (aS (aRem A c) (cao (nO A))) N' (ff + 36000) W → ofr b 0 h N h' N' → Q 1 (.int (i32 (pc12 (vcl (vup (nV A) c (false, [])) 12)))) h') : wp SC 21 (d + 35) q 0 [(0, .ref b), (1, .int (i32 c))] [] h Q := by
  obtain ⟨h12, ho2⟩ := NB_md z
  have hl := NB_top z
  have v0 := NB_vr z
  refine B21_0 z.1 rfl (s1 := 0) (s2 := q) (by omega) (c19 hc ht z.1 v0 (ret0 (B21_5 ⟨_, z.1, rfl⟩ v0.1 rfl (wp_up (d := 1) (by omega) (Nat.le_refl _) (c66 (d := 0) hc v0 (fun h1 v1 m1 => ret0 ?_))))))
  have s1 : re_hg h1 b = some (0, hdw b (nP A).length (nM A) (nO A) (nB A).length) := mo_g m1 (fun y => by unfold inV at y; omega) z.1
  obtain ⟨E, F, ho, la, f0, y1, y2⟩ := id z.2.2.2.1
  have mN1 : mo (inN b) 0 h h1 := mo_mono m1 (fun a _ y => by unfold inV at y; unfold inN; omega) (Nat.le_refl _)
  have mX1 : mo (inX b) 0 h h1 := mo_mono m1 (fun a _ y => by unfold inV at y; unfold inX; omega) (Nat.le_refl _)
  have ra1 := rall_x y1 mX1
  have zs1 : shc h1 (b + 298) (b + 2) (b + 41) (b + 292) (b + 50) 0 := by
    unfold shc
    rw [m1.1.2 _ (by omega) (fun y => by unfold inV at y; omega)]
    exact NB_sh z
  have hh1 : hld h1 E := fun x hx => by rw [bk_nd y1 mN1 x hx]; exact sth_hld y1.2.2.1 x hx
  refine B21_13 ⟨_, s1, rfl⟩ zs1 rfl (wp_up (d := 2) (by omega) (Nat.le_refl _) (c521r (d := 0) hc (by omega) zs1 ra1 hh1 (fun h2 r2 m2 k2 => ret0 ?_)))
  rw [Nat.zero_add] at r2 m2
  have ra2 := rall_rs (i := c) (by omega) ra1 (by have := m1.1.1; omega) m2 k2 r2
  have m3 : mo (fun a => inV (b + 2) a ∨ inR (b + 50 + 1 + 10 * c) a) 0 h h2 := mo_tr (mo_mono m1 (fun a _ y => Or.inl y) (Nat.le_refl _)) (mo_mono m2 (fun a _ y => Or.inr y) (Nat.le_refl _)) (Nat.le_refl _)
  have v2 : vr h2 (b + 2) (vup (nV A) c (false, [])) := vr_mo m2 (fun a ha y => by unfold inV at ha; unfold inR at y; omega) (by have := m1.1.1; omega) v1
  have p2 : ph h2 b (nP A) (nM A) (nO A) (nB A).length := ph_fr (m3.1.2 _ (by omega) (fun y => by unfold inV inR at y; omega)) (m3.1.2 _ (by omega) (fun y => by unfold inV inR at y; omega)) (fun e' v' y => ex_xk m3.2.1 y) (NB_ph z)
  have lk2 : re_hg h2 (b + 41) = re_hg h (b + 41) := m3.1.2 _ (by omega) (fun y => by unfold inV inR at y; omega)
  refine B21_21 ⟨_, p2.1, rfl⟩ (lk2.trans (lk_c (NB_lk z))) rfl (wp_up (d := d + 2) (by omega) (Nat.le_refl _) (fol (RR' := fgt (nY A).1 c) z m3 (fun a y => ⟨?_, ?_, ?_, ?_, ?_⟩) p2 h12 v2 (vwf_up (NB_m z).1 (fun x hx => by cases hx)) (mwf_fgt (NB_m z)) (fun e' y => y) ⟨E, F, ho, la, f0, y1, y2, ra2⟩ (fun h3 z3 o3 => ret0 ?_)))
  all_goals try (unfold inV inR at y; first | (unfold inN; omega) | (unfold inL; omega) | omega)
  refine B21_28 ⟨_, z3.1, rfl⟩ z3.1 rfl (c17 z3.1 ho2 (ret1 (B21_36 (NB_sh z3) rfl (sv (cao_lt _) z3 (rmL_fgt hL) hff hW (fun h' N' z4 o4 _ => ret1 ?_)))))
  have v4 := NB_vr z4
  refine B21_39 ⟨_, z4.1, rfl⟩ v4.1 rfl (c65 v4 (ret1 (B21_47 (c768 ?_ (ret1 (B21_50 (K h' N' z4 (ofr_tr o3 o4 (Nat.le_refl _)))))))))
  exact vcl_lt _ 12
/-- a name is renamed -/
def aRen (A : Nb) (nm ot : Nat) : Nb := (nP A, vxg nm ot (nV A) 12, nM A, nIp A, nS A, nO A, nB A, nY A)
theorem vwf_xg {V : Vr} {nm ot : Nat} (ho : ot < 16) (h : vwf V) : vwf (vxg nm ot V 12) := fun c hc x hx => by
  unfold vxg at hx
  rw [if_pos hc] at hx
  obtain ⟨y, y1, rfl⟩ := List.mem_map.mp (show x ∈ ((V c).2).map _ from hx)
  exact (xgd_ok nm ot ho y.2 (h c hc y y1).2 (h c hc y y1).1).symm
theorem c22 {nm ot : Nat} (hn : nm < 16) (hot : ot < 16) (z : NB h b A N ff W) (hL : rmL (nY A).1 W) (hff : ff + 40000 < 2 ^ 62) (hW : W ≤ 400000) (Kx : (nm = ot ∨ vmn (nV A) ot 12 = true) → 0 < q ∧ Q 4 .null h) (K0 : ¬ (nm = ot ∨ vmn (nV A) ot 12 = true) → dfm (nV A) nm 12 = 0 → Q 1 (.int 0) h) (K : ¬ (nm = ot ∨ vmn (nV A) ot 12 = true) → ¬ dfm (nV A) nm 12 = 0 → ∀ h' N', NB h' b (aS (aRen A nm ot) (cao (nO A))) N' (ff + 36000) W → ofr b (vps (nV A) 12) h N h' N' → Q 1 (.int (i32 (vxn nm (nV A) 12))) h') : wp SC 22 (d + 35) q 0 [(0, .ref b), (1, .int (i32 nm)), (2, .int (i32 ot))] [] h Q := by
  obtain ⟨h12, ho2⟩ := NB_md z
  have hl := NB_top z
  have v0 := NB_vr z
  refine B22_0 z.1 rfl (s1 := 0) (s2 := q) (by omega) (c5 hn (ret0 (B22_5 z.1 rfl (s1 := 0) (s2 := q) (by omega) (c5 hot (ret0 (B22_10 (fun g => ?_) (fun g => ?_)))))))
  · obtain ⟨k1, k2⟩ := Kx (Or.inl ((i3_eq (by omega) (by omega)).mp g))
    exact B22_26 k1 k2
  have hne : ¬ nm = ot := fun y => g (by rw [y])
  refine B22_15 ⟨_, z.1, rfl⟩ v0.1 rfl (wp_up (d := 2) (by omega) (Nat.le_refl _) (c67 (d := 0) hot v0 (ret1 (B22_23 (fun g2 => ?_) (fun g2 => ?_)))))
  rotate_left
  · have hm : vmn (nV A) ot 12 = true := by
      cases hv : vmn (nV A) ot 12 with
      | true => rfl
      | false => rw [hv] at g2; exact absurd rfl g2
    obtain ⟨k1, k2⟩ := Kx (Or.inr hm)
    exact B22_26 k1 k2
  have hno : ¬ (nm = ot ∨ vmn (nV A) ot 12 = true) := fun y => y.elim hne (fun y => by rw [y] at g2; exact absurd g2 (by decide))
  have zl := NB_lk z
  have a1 := lk_at zl (j := 1) (i := nm) (by omega) (by omega) (by show nm < 16; exact hn)
  have f1 : lkF (nV A) 1 nm = i32 (dfm (nV A) nm 12) := rfl
  rw [f1] at a1
  have hdl := dfm_lt (nV A) nm 12
  refine B22_36 ⟨_, z.1, rfl⟩ ⟨_, lk_c zl, rfl⟩ a1 (fun g3 => ?_) (fun g3 => B22_48 (K0 hno ((i3_zero (by omega)).mp g3)))
  have hd0 : ¬ dfm (nV A) nm 12 = 0 := fun y => g3 (by rw [y]; rfl)
  have K := K hno hd0
  refine B22_50 ⟨_, z.1, rfl⟩ v0.1 rfl (wp_up (d := d + 32) (by omega) (Nat.le_refl _) (c68 hn hot v0 (fun h1 v1 m1 => ret1 ?_)))
  have p1 : ph h1 b (nP A) (nM A) (nO A) (nB A).length := ph_fr (m1.1.2 _ (by omega) (fun y => by unfold inV at y; omega)) (m1.1.2 _ (by omega) (fun y => by unfold inV at y; omega)) (fun e' v' y => ex_xk m1.2.1 y) (NB_ph z)
  have lk1 : re_hg h1 (b + 41) = re_hg h (b + 41) := m1.1.2 _ (by omega) (fun y => by unfold inV at y; omega)
  refine B22_59 ⟨_, p1.1, rfl⟩ (lk1.trans (lk_c zl)) rfl (wp_up (d := d + 2) (by omega) (Nat.le_refl _) (fol (RR' := (nY A).1) z m1 (fun a y => ⟨?_, ?_, ?_, ?_, ?_⟩) p1 h12 v1 (vwf_xg hot (NB_m z).1) (NB_m z) (fun e' y => y) (ra_0 z m1 (fun a y => ?_)) (fun h3 z3 o3 => ret0 ?_)))
  all_goals try (unfold inV at y; first | (unfold inN; omega) | (unfold inL; omega) | (unfold inX; omega) | omega)
  exact B22_67 ⟨_, z3.1, rfl⟩ z3.1 rfl (c17 z3.1 ho2 (ret1 (B22_75 (NB_sh z3) rfl (sv (cao_lt _) z3 hL hff hW (fun h' N' z4 o4 _ => ret1 (B22_78 (K h' N' z4 (ofr_tr o3 o4 (Nat.le_refl _)))))))))
/-- behind a change of the header or the resources -/
theorem NB_res {h' : re_H} {o' : Nat} {I' : Nat → Int64} {sd' : Int32} {S : Nat → Prop} (z : NB h b A N ff W) (m : mo S 0 h h') (hS : ∀ a, S a → a = b ∨ a = b + 48 ∨ a = b + 49) (s1 : re_hg h' b = some (0, hdw b (nP A).length (nM A) o' (nB A).length)) (u1 : re_hg h' (b + 48) = some (4, [.ref (b + 49), .int sd'])) (u2 : re_hg h' (b + 49) = some (101, lst 4 (fun i => .long (I' i)))) (ho : o' ≤ 2) : NB h' b (nP A, nV A, nM A, I', sd', o', nB A, nY A) N ff W ∧ ofr b 0 h N h' N := by
  obtain ⟨z1, z2, z3, z4, z5, z6, z7, z8, z9, z10, z11, z12⟩ := id z
  have hl := NB_top z
  have e : ∀ a, a < h.1 → ¬ (a = b ∨ a = b + 48 ∨ a = b + 49) → re_hg h' a = re_hg h a := fun a ha y => m.1.2 a ha (fun g => y (hS a g))
  have v' : vr h' (b + 2) (nV A) := vr_mo m (fun a ha y => by have := hS a y; unfold inV at ha; omega) (by omega) (NB_vr z)
  have l' : lk h' (b + 41) (b + 2) (nV A) := lk_mo m (fun a ha y => by have := hS a y; unfold inL at ha; omega) (NB_lk z)
  refine ⟨⟨s1, pil_fr (e _ (by omega) (by omega)) m.2.1 z2, brh_fr (e _ (by omega) (by omega)) (fun a t w h1 h2 h3 => e a (hg_lt h2) (by omega)) m.2.1 z3, nbx_gen z4 (mo_mono m (fun a _ y => by have := hS a y; unfold inX; omega) (Nat.le_refl _)) v' l' u1 u2, z5, z6, Nat.le_trans z7 m.1.1, ⟨z8.1, ho⟩, z9, z10, z11, z12⟩, ofr_mo m (fun a y => by have := hS a y; omega)⟩
def aInp (A : Nb) (n : Nat) (l : Int64) : Nb := (nP A, nV A, nM A, (fun j => if j = n then l else nIp A j), nS A, nO A, nB A, nY A)
theorem c23 {n : Nat} {l : Int64} (hn : n < 4) (z : NB h b A N ff W) (hL : rmL (nY A).1 W) (hff : ff + 40000 < 2 ^ 62) (hW : W ≤ 400000) (K : ∀ h' N', NB h' b (aS (aInp A n l) (cao (nO A))) N' (ff + 36000) W → ofr b 0 h N h' N' → Q 2 (.long (nIp A n)) h') : wp SC 23 (d + 35) q 0 [(0, .ref b), (1, .int (i32 n)), (2, .long l)] [] h Q := by
  obtain ⟨h12, ho2⟩ := NB_md z
  have hl := NB_top z
  obtain ⟨-, -, b3, b4, -⟩ := (nbx_bf z.2.2.2.1).1
  refine B23_0 z.1 rfl (s1 := 0) (s2 := q) (by omega) (c7 hn (ret0 ?_))
  refine B23_5 ⟨_, z.1, rfl⟩ ⟨_, b3, rfl⟩ ⟨_, n, b4, rfl, by omega, lst_get (fun i => .long (nIp A i)) hn⟩ ⟨_, z.1, rfl⟩ ⟨_, b3, rfl⟩ b4 rfl (by omega) (by rw [lst_len]; exact hn) ?_
  obtain ⟨h1, e1⟩ : ∃ h1, h1 = re_hw h (b + 49) (101, (lst 4 (fun i => .long (nIp A i))).set n (.long l)) := ⟨_, rfl⟩
  rw [← e1]
  have m1 : mo (fun a => a = b + 49) 0 h h1 := by rw [e1]; exact mo_hw b4 (by omega) rfl
  have u2 : re_hg h1 (b + 49) = some (101, lst 4 (fun i => .long (if i = n then l else nIp A i))) := by
    rw [e1, hw_s (by omega), lst_set]
    exact congrArg (fun z => some (101, z)) (lst_ext (fun i _ => by split <;> rfl))
  obtain ⟨z2, o2⟩ := NB_res (I' := fun i => if i = n then l else nIp A i) z m1 (fun a y => Or.inr (Or.inr y)) (mo_g m1 (by show ¬ b = b + 49; omega) z.1) (mo_g m1 (by show ¬ b + 48 = b + 49; omega) b3) u2 ho2
  exact B23_26 ⟨_, z2.1, rfl⟩ z2.1 rfl (c17 z2.1 ho2 (ret1 (B23_34 (NB_sh z2) rfl (sv (cao_lt _) z2 hL hff hW (fun h' N' z4 o4 _ => ret1 (B23_37 (K h' N' z4 (ofr_tr o2 o4 (Nat.le_refl _)))))))))
theorem c23x {x : Int32} {l : Int64} (hx : x < 0 ∨ ¬ x < i32 4) (z : NB h b A N ff W) (hq : 0 < q) (K : Q 6 .null h) : wp SC 23 (d + 1) q 0 [(0, .ref b), (1, .int x), (2, .long l)] [] h Q :=
  B23_0 z.1 rfl (s1 := q) (s2 := 0) (by omega) (c7x hx hq (retx (x := 2) K))
def aSed (A : Nb) (s : Int32) : Nb := (nP A, nV A, nM A, nIp A, s, nO A, nB A, nY A)
theorem c24 {s : Int32} (z : NB h b A N ff W) (hL : rmL (nY A).1 W) (hff : ff + 40000 < 2 ^ 62) (hW : W ≤ 400000) (K : ∀ h' N', NB h' b (aS (aSed A s) (cao (nO A))) N' (ff + 36000) W → ofr b 0 h N h' N' → Q 1 (.int (nS A)) h') : wp SC 24 (d + 35) q 0 [(0, .ref b), (1, .int s)] [] h Q := by
  obtain ⟨h12, ho2⟩ := NB_md z
  have hl := NB_top z
  obtain ⟨-, -, b3, b4, -⟩ := (nbx_bf z.2.2.2.1).1
  refine B24_0 ⟨_, z.1, rfl⟩ ⟨_, b3, rfl⟩ ⟨_, z.1, rfl⟩ b3 (by show 1 < 2; omega) ?_
  obtain ⟨h1, e1⟩ : ∃ h1, h1 = re_hw h (b + 48) (4, [.ref (b + 49), .int (nS A)].set 1 (.int s)) := ⟨_, rfl⟩
  rw [← e1]
  have m1 : mo (fun a => a = b + 48) 0 h h1 := by rw [e1]; exact mo_hw b3 (by omega) rfl
  have u1 : re_hg h1 (b + 48) = some (4, [.ref (b + 49), .int s]) := by rw [e1]; exact hw_s (by omega)
  obtain ⟨z2, o2⟩ := NB_res z m1 (fun a y => Or.inr (Or.inl y)) (mo_g m1 (by show ¬ b = b + 48; omega) z.1) u1 (mo_g m1 (by show ¬ b + 49 = b + 48; omega) b4) ho2
  exact B24_16 ⟨_, z2.1, rfl⟩ z2.1 rfl (c17 z2.1 ho2 (ret1 (B24_24 (NB_sh z2) rfl (sv (cao_lt _) z2 hL hff hW (fun h' N' z4 o4 _ => ret1 (B24_27 (K h' N' z4 (ofr_tr o2 o4 (Nat.le_refl _)))))))))
def aMod (A : Nb) (o : Nat) : Nb := (nP A, nV A, nM A, nIp A, nS A, o, nB A, nY A)
theorem c25 {o : Nat} (ho : o ≤ 2) (z : NB h b A N ff W) (hL : rmL (nY A).1 W) (hff : ff + 40000 < 2 ^ 62) (hW : W ≤ 400000) (K : ∀ h' N', NB h' b (aS (aMod A o) (cao o)) N' (ff + 36000) W → ofr b 0 h N h' N' → Q 1 (.int (i32 (nO A))) h') : wp SC 25 (d + 35) q 0 [(0, .ref b), (1, .int (i32 o))] [] h Q := by
  obtain ⟨h12, ho2⟩ := NB_md z
  have hl := NB_top z
  obtain ⟨-, -, b3, b4, -⟩ := (nbx_bf z.2.2.2.1).1
  refine B25_0 (fun g => absurd g (i3_neg (by omega))) (fun _ => B25_4 (fun _ => ?_) (fun g => absurd ((i3_lt (by omega) (by omega)).mp g) (by omega)))
  refine B25_19 ⟨_, z.1, rfl⟩ z.1 (by show 8 < 11; omega) ?_
  obtain ⟨h1, e1⟩ : ∃ h1, h1 = re_hw h b (0, (hdw b (nP A).length (nM A) (nO A) (nB A).length).set 8 (.int (i32 o))) := ⟨_, rfl⟩
  rw [← e1]
  have m1 : mo (fun a => a = b) 0 h h1 := by rw [e1]; exact mo_hw z.1 (by omega) rfl
  have s1 : re_hg h1 b = some (0, hdw b (nP A).length (nM A) o (nB A).length) := by rw [e1]; exact hw_s (by omega)
  obtain ⟨z2, o2⟩ := NB_res z m1 (fun a y => Or.inl y) s1 (mo_g m1 (by show ¬ b + 48 = b; omega) b3) (mo_g m1 (by show ¬ b + 49 = b; omega) b4) ho
  exact B25_29 ⟨_, z2.1, rfl⟩ z2.1 rfl (c17 z2.1 ho (ret1 (B25_37 (NB_sh z2) rfl (sv (cao_lt _) z2 hL hff hW (fun h' N' z4 o4 _ => ret1 (B25_40 (K h' N' z4 (ofr_tr o2 o4 (Nat.le_refl _)))))))))
theorem c25x {x : Int32} (hx : x < 0 ∨ i32 2 < x) (hq : 0 < q) (K : Q 5 .null h) : wp SC 25 (d + 1) q 0 [(0, .ref b), (1, .int x)] [] h Q :=
  B25_0 (fun _ => B25_9 hq K) (fun g => B25_4 (fun g2 => hx.elim (fun y => absurd y g) (fun y => absurd y g2)) (fun _ => B25_9 hq K))
/-- one cell is run -/
noncomputable def aR (A : Nb) (c : Nat) : Nb := (nP A, nV A, nM A, nIp A, nS A, nO A, nB A, rOn (nV A) (nIp A) (nS A) 0 c (nY A))
theorem c26 {c : Nat} (hc : c < 12) (ht : ((nV A) c).1 = true) (z : NB h b A N ff W) (hL : rmL (nY A).1 W) (hff : ff + 40000 < 2 ^ 62) (hW : W ≤ 400000) (K1 : nO A = 2 → ∀ h' N', NB h' b (aR A c) N' (ff + 36000) W → ofr b 0 h N h' N' → Q 1 (.int (i32 (rOr (nV A) c))) h') (K2 : ¬ nO A = 2 → ∀ h' N', NB h' b (aS A (wn (nV A) 12 c ||| 2 ^ c)) N' (ff + 36000) W → ofr b 0 h N h' N' → (stl (nV A) (nIp A) (nS A) 0 (wn (nV A) 12 c ||| 2 ^ c) (nY A)).2.1 ≤ 12 → Q 1 (.int (i32 (stl (nV A) (nIp A) (nS A) 0 (wn (nV A) 12 c ||| 2 ^ c) (nY A)).2.1)) h') : wp SC 26 (d + 35) q 0 [(0, .ref b), (1, .int (i32 c))] [] h Q := by
  obtain ⟨h12, ho2⟩ := NB_md z
  have zl := NB_lk z
  refine B26_0 z.1 rfl (s1 := 0) (s2 := q) (by omega) (c19 hc ht z.1 (NB_vr z) (ret0 (B26_5 ⟨_, z.1, rfl⟩ (fun g => ?_) (fun g => ?_))))
  · have a5 := lk_at zl (j := 5) (i := c) (by omega) (by omega) (by show c < 12; exact hc)
    have f5 : lkF (nV A) 5 c = i32 (wn (nV A) 12 c) := rfl
    rw [f5] at a5
    refine B26_22 ⟨_, z.1, rfl⟩ ⟨_, z.1, rfl⟩ ⟨_, lk_c zl, rfl⟩ a5 (NB_sh z) rfl ?_
    rw [i3_shl (by omega), i3_or]
    have hwl : wn (nV A) 12 c ||| 2 ^ c < 2 ^ 12 := Nat.or_lt_two_pow (wn_lt (nV A) 12 c) (Nat.pow_lt_pow_right (by decide) hc)
    exact sv (by omega) z hL hff hW (fun h' N' z4 o4 o5 => ret1 (B26_42 (K2 (fun y => g (by rw [y])) h' N' z4 o4 o5)))
  · obtain ⟨L, l1, l2, l3⟩ := hL
    refine B26_13 ⟨_, z.1, rfl⟩ (NB_sh z) rfl (wp_up (d := d + 5) (by omega) (Nat.le_refl _) (c519 hc (Or.inl ⟨rfl, rfl⟩) z.2.2.2.1 (NB_m z) z.2.2.2.2.2.2.2.2.2.1 ⟨L, by omega, l2, l3⟩ (by omega) hW (fun h' N' x1 x2 u => ret1 (B26_21 (K1 ((i3_eq (by omega) (by omega)).mp g) h' N' (NB_run z (nbx_up x1 (by omega)) x2 (by rw [rOn_T]; omega) u) (ofr_bru u))))))
end P3
