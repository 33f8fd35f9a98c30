/-! Cellbrook: the calls that change code and resources. -/
def pcJ (x0 : Int32) : Int32 := ((((((((x0 - ((x0.toUInt32 >>> ((i32 1).toUInt32 &&& Int32.toUInt32 31)).toInt32 &&& (1431655765))) &&& (858993459)) + (((x0 - ((x0.toUInt32 >>> ((i32 1).toUInt32 &&& Int32.toUInt32 31)).toInt32 &&& (1431655765))).toUInt32 >>> ((i32 2).toUInt32 &&& Int32.toUInt32 31)).toInt32 &&& (858993459))) + ((((x0 - ((x0.toUInt32 >>> ((i32 1).toUInt32 &&& Int32.toUInt32 31)).toInt32 &&& (1431655765))) &&& (858993459)) + (((x0 - ((x0.toUInt32 >>> ((i32 1).toUInt32 &&& Int32.toUInt32 31)).toInt32 &&& (1431655765))).toUInt32 >>> ((i32 2).toUInt32 &&& Int32.toUInt32 31)).toInt32 &&& (858993459))).toUInt32 >>> ((i32 4).toUInt32 &&& Int32.toUInt32 31)).toInt32) &&& (252645135)) + ((((((x0 - ((x0.toUInt32 >>> ((i32 1).toUInt32 &&& Int32.toUInt32 31)).toInt32 &&& (1431655765))) &&& (858993459)) + (((x0 - ((x0.toUInt32 >>> ((i32 1).toUInt32 &&& Int32.toUInt32 31)).toInt32 &&& (1431655765))).toUInt32 >>> ((i32 2).toUInt32 &&& Int32.toUInt32 31)).toInt32 &&& (858993459))) + ((((x0 - ((x0.toUInt32 >>> ((i32 1).toUInt32 &&& Int32.toUInt32 31)).toInt32 &&& (1431655765))) &&& (858993459)) + (((x0 - ((x0.toUInt32 >>> ((i32 1).toUInt32 &&& Int32.toUInt32 31)).toInt32 &&& (1431655765))).toUInt32 >>> ((i32 2).toUInt32 &&& Int32.toUInt32 31)).toInt32 &&& (858993459))).toUInt32 >>> ((i32 4).toUInt32 &&& Int32.toUInt32 31)).toInt32) &&& (252645135)).toUInt32 >>> ((i32 8).toUInt32 &&& Int32.toUInt32 31)).toInt32) + (((((((x0 - ((x0.toUInt32 >>> ((i32 1).toUInt32 &&& Int32.toUInt32 31)).toInt32 &&& (1431655765))) &&& (858993459)) + (((x0 - ((x0.toUInt32 >>> ((i32 1).toUInt32 &&& Int32.toUInt32 31)).toInt32 &&& (1431655765))).toUInt32 >>> ((i32 2).toUInt32 &&& Int32.toUInt32 31)).toInt32 &&& (858993459))) + ((((x0 - ((x0.toUInt32 >>> ((i32 1).toUInt32 &&& Int32.toUInt32 31)).toInt32 &&& (1431655765))) &&& (858993459)) + (((x0 - ((x0.toUInt32 >>> ((i32 1).toUInt32 &&& Int32.toUInt32 31)).toInt32 &&& (1431655765))).toUInt32 >>> ((i32 2).toUInt32 &&& Int32.toUInt32 31)).toInt32 &&& (858993459))).toUInt32 >>> ((i32 4).toUInt32 &&& Int32.toUInt32 31)).toInt32) &&& (252645135)) + ((((((x0 - ((x0.toUInt32 >>> ((i32 1).toUInt32 &&& Int32.toUInt32 31)).toInt32 &&& (1431655765))) &&& (858993459)) + (((x0 - ((x0.toUInt32 >>> ((i32 1).toUInt32 &&& Int32.toUInt32 31)).toInt32 &&& (1431655765))).toUInt32 >>> ((i32 2).toUInt32 &&& Int32.toUInt32 31)).toInt32 &&& (858993459))) + ((((x0 - ((x0.toUInt32 >>> ((i32 1).toUInt32 &&& Int32.toUInt32 31)).toInt32 &&& (1431655765))) &&& (858993459)) + (((x0 - ((x0.toUInt32 >>> ((i32 1).toUInt32 &&& Int32.toUInt32 31)).toInt32 &&& (1431655765))).toUInt32 >>> ((i32 2).toUInt32 &&& Int32.toUInt32 31)).toInt32 &&& (858993459))).toUInt32 >>> ((i32 4).toUInt32 &&& Int32.toUInt32 31)).toInt32) &&& (252645135)).toUInt32 >>> ((i32 8).toUInt32 &&& Int32.toUInt32 31)).toInt32).toUInt32 >>> ((i32 16).toUInt32 &&& Int32.toUInt32 31)).toInt32) &&& (i32 63))
theorem pcJ_64 : ∀ a, a < 64 → ∀ c, c < 64 → pcJ (i32 (64 * a + c)) = i32 (pc12 (64 * a + c)) := by decide +kernel
theorem pcJ_eq (m : Nat) (hm : m < 4096) : pcJ (i32 m) = i32 (pc12 m) := by
  have := pcJ_64 (m / 64) (by omega) (m % 64) (by omega)
  rw [Nat.div_add_mod] at this
  exact this
def cao (o : Nat) : Nat := if o = 0 then 4095 else 0
/-- all stale cells of a set are run -/
noncomputable def aS (A : Nb) (w : Nat) : Nb := (nP A, nV A, nM A, nIp A, nS A, nO A, nB A, (stl (nV A) (nIp A) (nS A) 0 w (nY A)).2.2)
/-- there is room for a settling's nodes -/
def rmL (RR : Nat → Rs) (W : Nat) : Prop := ∃ L : List Nat, 320 * (L.length + 12) ≤ W ∧ ¬ 0 ∈ L ∧ ∀ r, lrd RR r → r ∈ L
section P2
variable {SC : List Value} {d q : Nat} {h : re_H} {Q : Nat → Value → re_H → Prop} {b ff W md o bc ht n : Nat} {A : Nb} {N : List Nat} {V : Vr}
theorem c768 {m : Nat} (hm : m < 4096) (K : Q 1 (.int (i32 (pc12 m))) h) : wp SC 768 d q 0 [(0, .int (i32 m))] [] h Q := by
  refine B768_0 ?_
  rw [← pcJ_eq m hm] at K
  exact K
theorem c17 (z : re_hg h b = some (0, hdw b ht md o bc)) (ho : o ≤ 2) (K : Q 1 (.int (i32 (cao o))) h) : wp SC 17 d q 0 [(0, .ref b)] [] h Q := by
  refine B17_0 ⟨_, z, rfl⟩ (fun g => B17_13 (B17_14 ?_)) (fun g => B17_7 (B17_14 ?_))
  · have e : cao o = 0 := if_neg (fun y => g (by rw [y]; rfl))
    rw [e] at K
    exact K
  · have e : cao o = 4095 := if_pos ((i3_zero (by omega)).mp g)
    rw [e] at K
    exact K
theorem cao_lt (o : Nat) : cao o < 2147483648 := by unfold cao; split <;> omega
/-- behind runs -/
theorem NB_run {h' : re_H} {N' : List Nat} {ff' : Nat} {Y' : Yr} (z : NB h b A N ff W) (x1 : nbx h' b (nV A) (nIp A) (nS A) Y' N' ff' W) (x2 : mwf (nV A) Y'.1) (x3 : 0 < Y'.2.2) (u : bru b h N h' N') : NB h' b (nP A, nV A, nM A, nIp A, nS A, nO A, nB A, Y') N' ff' W := by
  obtain ⟨z1, z2, z3, z4, z5, z6, z7, z8, z9, z10, z11, z12⟩ := z
  have e : ∀ a, a < h.1 → ¬ inB b a → ¬ a ∈ N → re_hg h' a = re_hg h a := u.2.1
  have hl := (nbx_bf z4).2
  have nn : ∀ a, a < 603 → ¬ a ∈ N := fun a ha y => by have := z5 a y; omega
  refine ⟨(e _ (by omega) (by unfold inB; omega) (nn _ (by omega))).trans z1, pil_fr (e _ (by omega) (by unfold inB; omega) (nn _ (by omega))) u.2.2.1 z2, brh_fr (e _ (by omega) (by unfold inB; omega) (nn _ (by omega))) (fun a t w h1 h2 h3 => e a (hg_lt h2) (by unfold inB; omega) (fun y => ?_)) u.2.2.1 z3, x1, fun x hx => ?_, z6, Nat.le_trans z7 u.1, z8, x2, x3, z11, z12⟩
  · obtain ⟨-, w', y9⟩ := nbx_10 z4 y
    rw [h2] at y9
    cases y9
    exact h3 rfl
  · rcases u.2.2.2.2.2 x hx with y | y
    · exact z5 x y
    · omega
/-- the sheet of what is kept is settled -/
theorem sv {w : Nat} (hw : w < 2147483648) (z : NB h b A N ff W) (hL : rmL (nY A).1 W) (hff : ff + 40000 < 2 ^ 62) (hW : W ≤ 400000) (K : ∀ h' N', NB h' b (aS A w) N' (ff + 36000) W → ofr b 0 h N h' N' → (stl (nV A) (nIp A) (nS A) 0 w (nY A)).2.1 ≤ 12 → Q 1 (.int (i32 (stl (nV A) (nIp A) (nS A) 0 w (nY A)).2.1)) h') : wp SC 513 (d + 34) q 0 [(0, .ref (b + 298)), (1, .int (i32 w))] [] h Q :=
  c513 (st0 := 0) hw (Or.inl ⟨rfl, rfl⟩) z.2.2.2.1 z.2.2.2.2.2.2.2.2.1 z.2.2.2.2.2.2.2.2.2.1 hL hff hW (fun h' N' x1 x2 x3 u x4 => K h' N' (NB_run z x1 x2 x3 u) (ofr_bru u) x4)
theorem rall_rs {h' : re_H} {E : Ev} {ra i : Nat} {RR : Nat → Rs} {R' : Rs} (hi : i < 24) (z : rall h E ra RR) (hl : ra + 240 < h.1) (mm : mo (inR (ra + 1 + 10 * i)) 0 h h') (hk : ∀ x, E.2.2.1 x → re_hg h' x = re_hg h x) (zr : rs h' E (ra + 1 + 10 * i) R') : rall h' E ra (rUp RR i R') := by
  refine ⟨?_, fun j hj => ?_⟩
  · rw [mm.1.2 _ (by omega) (by unfold inR; omega)]; exact z.1
  · rcases Nat.decEq j i with hne | rfl
    · rw [rUp_n hne]
      exact rs_fr (fun a ha => mm.1.2 a (by unfold inR at ha; omega) (by unfold inR at ha ⊢; omega)) hk mm.2.1 (eLe_rf E) (z.2 j hj)
    · rw [rUp_s]; exact zr
/-- links are followed: the code is another one, perhaps results too -/
theorem fol {h1 : re_H} {P' : List Tr} {V' : Vr} {md' : Nat} {RR' : Nat → Rs} {S : Nat → Prop} (z : NB h b A N ff W) (m : mo S n h h1) (hS : ∀ a, S a → inN b a ∧ ¬ inL (b + 41) a ∧ ¬ a = b + 300 ∧ ¬ a = b + 48 ∧ ¬ a = b + 49) (p : ph h1 b P' md' (nO A) (nB A).length) (hmd : md' ≤ 12) (v' : vr h1 (b + 2) V') (hV : vwf V') (hR : mwf (nV A) RR') (hP : ∀ e, e ∈ P' → e ∈ nP A) (ra : ∃ (E : Ev) (F : List Nat) (ho la f0 : Nat), bk h b E (nV A) (nIp A) (nS A) (nY A).1 N F ho la f0 ∧ (f0 ≤ ff ∧ E.2.1 = (nY A).2.1 ∧ cok E N (nY A).2.2 ∧ la ≤ W ∧ ho ≤ la + 820 ∧ N.length ≤ 2 * W + 820) ∧ rall h1 E (b + 50) RR')
    (K : ∀ h2, NB h2 b (P', V', md', nIp A, nS A, nO A, nB A, (RR', (nY A).2)) N ff W → ofr b n h N h2 N → Q 0 .null h2) : wp SC 193 (d + 2) q 0 [(0, .ref (b + 41))] [] h1 Q := by
  obtain ⟨z1, z2, z3, z4, z5, z6, z7, z8, z9, z10, z11, z12⟩ := id z
  obtain ⟨⟨b1, ⟨F0, b2, -⟩, b3, b4, -⟩, hl⟩ := nbx_bf z4
  have l1 : lkr h1 (b + 41) (b + 2) F0 := lkr_mo m (fun a ha y => (hS a y).2.1 ha) b2
  refine c193 (Or.inl (by omega)) l1 v' (fun h2 lk2 m2 => ?_)
  have mm : mo (fun a => S a ∨ inL (b + 41) a) n h h2 := mo_tr (mo_mono m (fun a _ y => Or.inl y) (Nat.le_refl _)) (mo_mono m2 (fun a _ y => Or.inr y) (Nat.le_refl _)) (m := 0) (Nat.le_refl _)
  have hSS : ∀ a, (S a ∨ inL (b + 41) a) → inN b a := fun a y => y.elim (fun y => (hS a y).1) (fun y => by unfold inL at y; unfold inN; omega)
  have h300 : ¬ (S (b + 300) ∨ inL (b + 41) (b + 300)) := fun y => y.elim (fun y => (hS _ y).2.2.1 rfl) (fun y => by unfold inL at y; omega)
  have p2 : ph h2 b P' md' (nO A) (nB A).length := ph_fr (m2.1.2 _ (hg_lt p.1) (by unfold inL; omega)) (m2.1.2 _ (by obtain ⟨ps, y, -⟩ := p.2; exact hg_lt y) (by unfold inL; omega)) (fun e' v' y => ex_xk m2.2.1 y) p
  have nb : nbx h2 b V' (nIp A) (nS A) (RR', (nY A).2) N ff W := by
    obtain ⟨E, F, ho, la, f0, y1, y2, r1⟩ := ra
    have mN : mo (inN b) n h h2 := mo_mono mm (fun a _ y => hSS a y) (Nat.le_refl _)
    refine ⟨E, F, ho, la, f0, bk_gen y1 mN (vr_mo m2 (fun a ha y => by unfold inV at ha; unfold inL at y; omega) (by have := m.1.1; omega) v') lk2 (mo_g mm (fun y => y.elim (fun y => (hS _ y).2.2.2.1 rfl) (fun y => by unfold inL at y; omega)) b3) (mo_g mm (fun y => y.elim (fun y => (hS _ y).2.2.2.2 rfl) (fun y => by unfold inL at y; omega)) b4) ?_, y2⟩
    have e1 : ∀ x, E.2.2.1 x → re_hg h2 x = re_hg h1 x := fun x hx => by
      rw [bk_nd y1 mN x hx, bk_nd y1 (mo_mono m (fun a _ y => (hS a y).1) (Nat.le_refl _)) x hx]
    exact rall_fr (fun a ha => m2.1.2 a (by have := m.1.1; omega) (fun y => by unfold inL at y; omega)) e1 m2.2.1 (eLe_rf E) r1
  refine K h2 ⟨p2.1, p2.2, brh_fr (mm.1.2 _ (by omega) h300) (fun a t w h1 h2 _ => mm.1.2 a (hg_lt h2) (fun y => by have := hSS a y; unfold inN at this; omega)) mm.2.1 z3, nb, z5, z6, Nat.le_trans z7 mm.1.1, ⟨hmd, z8.2⟩, ⟨hV, hR.2⟩, z10, fun e he => z11 e (hP e he), z12⟩ (ofr_mo mm (fun a y => by have := hSS a y; unfold inN at this; omega))
/-- no result was written -/
theorem ra_0 {h1 : re_H} {S : Nat → Prop} (z : NB h b A N ff W) (m : mo S n h h1) (hS : ∀ a, S a → inX b a) : ∃ (E : Ev) (F : List Nat) (ho la f0 : Nat), bk h b E (nV A) (nIp A) (nS A) (nY A).1 N F ho la f0 ∧ (f0 ≤ ff ∧ E.2.1 = (nY A).2.1 ∧ cok E N (nY A).2.2 ∧ la ≤ W ∧ ho ≤ la + 820 ∧ N.length ≤ 2 * W + 820) ∧ rall h1 E (b + 50) (nY A).1 := by
  obtain ⟨E, F, ho, la, f0, y1, y2⟩ := id z.2.2.2.1
  exact ⟨E, F, ho, la, f0, y1, y2, rall_x y1 (mo_mono m (fun a _ g => hS a g) (Nat.le_refl _))⟩
theorem vwf_up {V : Vr} {i : Nat} {q : Bool × Cd} (h : vwf V) (hq : ∀ x, x ∈ q.2 → inps x.2 < 16 ∧ wE x.2 = true) : vwf (vup V i q) := fun c hc x hx => by
  unfold vup at hx
  split at hx
  · exact hq x hx
  · exact h c hc x hx
/-- a cell is made -/
def aCell (A : Nb) : Nb := (nP A, vup (nV A) (nM A) (true, ((nV A) (nM A)).2), nM A + 1, nIp A, nS A, nO A, nB A, nY A)
theorem c16 (z : NB h b A N ff W) (hL : rmL (nY A).1 W) (hff : ff + 40000 < 2 ^ 62) (hW : W ≤ 400000) (Kx : nM A = 12 → 0 < q ∧ Q 4 .null h) (K : nM A < 12 → ∀ h' N', NB h' b (aS (aCell A) (cao (nO A))) N' (ff + 36000) W → ofr b 0 h N h' N' → Q 1 (.int (i32 (nM A))) h') : wp SC 16 (d + 35) q 0 [(0, .ref b)] [] h Q := by
  have h12 : nM A ≤ 12 := z.2.2.2.2.2.2.2.1.1
  have ho2 : nO A ≤ 2 := z.2.2.2.2.2.2.2.1.2
  refine B16_0 ⟨_, z.1, rfl⟩ (fun g => ?_) (fun g => ?_)
  rotate_left
  · obtain ⟨k1, k2⟩ := Kx (by have := (i3_ge (by omega) (by omega)).mp g; omega)
    exact B16_9 k1 k2
  have hlt : nM A < 12 := (i3_lt (by omega) (by omega)).mp g
  have K := K hlt
  refine B16_19 ⟨_, z.1, rfl⟩ z.1 (by show 3 < 11; omega) ?_
  rw [i3_add]
  obtain ⟨h1, e1⟩ : ∃ h1, h1 = re_hw h b (0, (hdw b (nP A).length (nM A) (nO A) (nB A).length).set 3 (.int (i32 (nM A + 1)))) := ⟨_, rfl⟩
  rw [← e1]
  have hb := NB_b z
  have s1 : re_hg h1 b = some (0, hdw b (nP A).length (nM A + 1) (nO A) (nB A).length) := by rw [e1]; exact hw_s (by omega)
  have m1 : mo (fun a => a = b) 0 h h1 := by rw [e1]; exact mo_hw z.1 (by omega) rfl
  have v1 : vr h1 (b + 2) (nV A) := vr_mo m1 (fun a ha y => by unfold inV at ha; omega) (by have := (nbx_bf z.2.2.2.1).2; omega) (NB_vr z)
  refine B16_30 ⟨_, s1, rfl⟩ ⟨_, v1.1, rfl⟩ v1.2.1 rfl (by omega) (by rw [lst_len]; omega) ?_
  rw [show vp_nar .boolean (i32 1) = ib true from nar_b true]
  obtain ⟨v2, m2⟩ := vr_th (i := nM A) (b := true) v1
  obtain ⟨h2, e2⟩ : ∃ h2, h2 = re_hw h1 (b + 2 + 1) (102, (lst 12 (fun j => .int (ib ((nV A) j).1))).set (nM A) (.int (ib true))) := ⟨_, rfl⟩
  rw [← e2] at v2 m2 ⊢
  have m3 : mo (fun a => a = b ∨ inV (b + 2) a) 0 h h2 := mo_tr (mo_mono m1 (fun a _ y => Or.inl y) (Nat.le_refl _)) (mo_mono m2 (fun a _ y => Or.inr y) (Nat.le_refl _)) (Nat.le_refl _)
  have s2 : re_hg h2 b = some (0, hdw b (nP A).length (nM A + 1) (nO A) (nB A).length) := mo_g m2 (fun y => by unfold inV at y; omega) s1
  have p2 : ph h2 b (nP A) (nM A + 1) (nO A) (nB A).length := ⟨s2, pil_fr (m3.1.2 _ (by omega) (fun y => by unfold inV at y; omega)) m3.2.1 z.2.1⟩
  have lk2 : re_hg h2 (b + 41) = re_hg h (b + 41) := m3.1.2 _ (by have := (nbx_bf z.2.2.2.1).2; omega) (fun y => by unfold inV at y; omega)
  refine B16_41 ⟨_, s2, rfl⟩ (lk2.trans (lk_c (NB_lk z))) rfl (wp_up (d := d + 2) (by omega) (Nat.le_refl _) (fol (RR' := (nY A).1) z m3 (fun a y => ⟨?_, ?_, ?_, ?_, ?_⟩) p2 (by omega) v2 (vwf_up z.2.2.2.2.2.2.2.2.1.1 ?_) z.2.2.2.2.2.2.2.2.1 (fun _ y => y) (ra_0 z m3 (fun a y => ?_)) (fun h3 z3 o3 => ret0 ?_)))
  all_goals try (unfold inV at y; first | (unfold inN; omega) | (unfold inL; omega) | (unfold inX; omega) | omega)
  · intro x hx; exact z.2.2.2.2.2.2.2.2.1.1 _ hlt x hx
  have zs : re_hg h3 (b + 298) = some (8, _) := (nbx_bf z3.2.2.2.1).1.2.2.2.2.1
  refine B16_48 ⟨_, z3.1, rfl⟩ z3.1 rfl (c17 z3.1 ho2 (ret1 (B16_56 zs rfl (sv (cao_lt _) z3 hL hff hW (fun h' N' z4 o4 _ => ret1 (B16_59 (K h' N' z4 (ofr_tr o3 o4 (Nat.le_refl _)))))))))
/-- a name is defined -/
def aDef (A : Nb) (c nm : Nat) : Nb := ((nP A).dropLast, vup (nV A) c (((nV A) c).1, cput ((nV A) c).2 nm (tp (nP A))), nM A, nIp A, nS A, nO A, nB A, nY A)
def noDef (A : Nb) (c nm : Nat) : Prop := nP A = [] ∨ (pof nm ((nV A) c).2 = none ∧ 4 ≤ ((nV A) c).2.length)
theorem cput_mem {C : Cd} {nm : Nat} {e : Tr} {x : Nat × Tr} (h : x ∈ cput C nm e) : x ∈ C ∨ x = (nm, e) := by
  unfold cput at h
  split at h
  · exact (List.mem_or_eq_of_mem_set h)
  · rcases List.mem_append.mp h with y | y
    · exact Or.inl y
    · exact Or.inr (List.mem_singleton.mp y)
theorem c18 {c nm : Nat} (hc : c < 12) (hn : nm < 16) (ht : ((nV A) c).1 = true) (z : NB h b A N ff W) (hL : rmL (nY A).1 W) (hff : ff + 40000 < 2 ^ 62) (hW : W ≤ 400000) (Kx : noDef A c nm → 0 < q ∧ Q 4 .null h) (K : ¬ noDef A c nm → ∀ h' N', NB h' b (aS (aDef A c nm) (cao (nO A))) N' (ff + 36000) W → ofr b 0 h N h' N' → Q 1 (.int (i32 (cput ((nV A) c).2 nm (tp (nP A))).length)) h') : wp SC 18 (d + 35) q 0 [(0, .ref b), (1, .int (i32 c)), (2, .int (i32 nm))] [] h Q := by
  have h12 : nM A ≤ 12 := z.2.2.2.2.2.2.2.1.1
  have ho2 : nO A ≤ 2 := z.2.2.2.2.2.2.2.1.2
  have hb := NB_b z
  have hl := (nbx_bf z.2.2.2.1).2
  have v0 := NB_vr z
  have h20 := NB_20 z
  have cc := v0.2.2.2 c hc
  have hcar : nb_ar h (b + 2 + 2) 104 (i32 c) (.ref (b + 2 + 3 + 3 * c)) := ⟨_, c, v0.2.2.1, rfl, by omega, lst_get (fun i => .ref (b + 2 + 3 + 3 * i)) hc⟩
  refine B18_0 z.1 rfl (s1 := 0) (s2 := q) (by omega) (c19 hc ht z.1 v0 (ret0 (B18_5 z.1 rfl (s1 := 0) (s2 := q) (by omega) (c5 hn (ret0 ?_)))))
  refine B18_10 ⟨_, z.1, rfl⟩ ⟨_, v0.1, rfl⟩ hcar ⟨_, z.1, rfl⟩ (fun g => ?_) (fun g => ?_)
  rotate_left
  · obtain ⟨k1, k2⟩ := Kx (Or.inl (List.length_eq_zero_iff.mp ((i3_zero (by omega)).mp g)))
    exact B18_27 k1 k2
  have hne : ¬ nP A = [] := fun y => g (by rw [y]; rfl)
  obtain ⟨cw, cc0⟩ := cd_hg cc
  refine B18_37 cc0 rfl (c135 hn cc (ret1 ?_))
  obtain ⟨ns, es, ccr, -, -, ccc⟩ := id cc
  have hpl : ∀ i, pof nm ((nV A) c).2 = some i → i < 2147483648 := fun i y => by have := (pof_some y).1; have := ccc.1; omega
  have go : ¬ noDef A c nm → wp SC 18 (d + 35) q 63 [(0, .ref b), (2, .int (i32 nm)), (3, .ref (b + 2 + 3 + 3 * c))] [] h Q := by
    intro hno
    have K := K hno
    obtain ⟨P0, e, hP⟩ := last1 (P := nP A) (by rcases Nat.eq_zero_or_pos (nP A).length with y | y; exact absurd (List.length_eq_zero_iff.mp y) hne; exact y)
    have heI := NB_in z (e := e) (by rw [hP]; simp)
    have eA : aDef A c nm = (P0, vup (nV A) c (((nV A) c).1, cput ((nV A) c).2 nm e), nM A, nIp A, nS A, nO A, nB A, nY A) := by
      unfold aDef
      rw [hP, dl_app, tp_app]
    rw [eA, hP, tp_app] at K
    have p0 := NB_ph z
    rw [hP] at p0
    refine B18_63 z.1 rfl (c10 p0 (fun h1 x1 p1 ze1 m1 => ret3 ?_))
    have cc1 : cd h1 (b + 2 + 3 + 3 * c) ((nV A) c).2 := cd_fr (fun a h1 h2 => m1.1.2 a (by omega) (fun y => by unfold inJ at y; omega)) m1.2.1 cc
    obtain ⟨cw1, cc10⟩ := cd_hg cc1
    refine B18_69 (Or.inr ⟨x1, rfl⟩) cc10 rfl (wp_up (d := 1) (by omega) (Nat.le_refl _) (c136 (d := 0) hn cc1 ze1 heI.2 (fun y => ?_) (fun h2 cc2 m2 => ret0 ?_)))
    · rcases Nat.lt_or_ge ((nV A) c).2.length 4 with g4 | g4
      · exact g4
      · exact absurd (Or.inr ⟨y, g4⟩) hno
    have v1 : vr h1 (b + 2) (nV A) := vr_mo m1 (fun a ha y => by unfold inV at ha; unfold inJ at y; omega) (by omega) v0
    have v2 := vr_cd v1 hc cc2 m2
    have m3 : mo (fun a => inJ b a ∨ in3 (b + 2 + 3 + 3 * c) a) 0 h h2 := mo_tr (mo_mono m1 (fun a _ y => Or.inl y) (Nat.le_refl _)) (mo_mono m2 (fun a _ y => Or.inr y) (Nat.le_refl _)) (Nat.le_refl _)
    have p2 : ph h2 b P0 (nM A) (nO A) (nB A).length := ph_fr (m2.1.2 _ (by have := m1.1.1; omega) (fun y => by unfold in3 at y; omega)) (m2.1.2 _ (by have := m1.1.1; omega) (fun y => by unfold in3 at y; omega)) (fun e' v' y => ex_xk m2.2.1 y) p1
    have lk2 : re_hg h2 (b + 41) = re_hg h (b + 41) := m3.1.2 _ (by omega) (fun y => by unfold in3 inJ at y; omega)
    refine B18_72 ⟨_, p2.1, rfl⟩ (lk2.trans (lk_c (NB_lk z))) rfl (wp_up (d := d + 2) (by omega) (Nat.le_refl _) (fol (RR' := (nY A).1) z m3 (fun a y => ⟨?_, ?_, ?_, ?_, ?_⟩) p2 h12 v2 (vwf_up z.2.2.2.2.2.2.2.2.1.1 ?_) z.2.2.2.2.2.2.2.2.1 (fun e' y => by rw [hP]; exact List.mem_append_left _ y) (ra_0 z m3 (fun a y => ?_)) (fun h3 z3 o3 => ret0 ?_)))
    all_goals try (unfold in3 inJ at y; first | (unfold inN; omega) | (unfold inL; omega) | (unfold inX; omega) | omega)
    · intro x hx
      rcases cput_mem hx with y | y
      · exact z.2.2.2.2.2.2.2.2.1.1 c hc x y
      · rw [y]; exact ⟨heI.1, ex_wE ze1⟩
    have zs : re_hg h3 (b + 298) = some (8, _) := (nbx_bf z3.2.2.2.1).1.2.2.2.2.1
    refine B18_79 ⟨_, z3.1, rfl⟩ z3.1 rfl (c17 z3.1 ho2 (ret1 (B18_87 zs rfl (sv (cao_lt _) z3 hL hff hW (fun h' N' z4 o4 _ => ret1 ?_)))))
    have c9 := (NB_vr z4).2.2.2 c hc
    obtain ⟨ns9, es9, cr9, -⟩ := c9
    have e9 : (nV (aS (P0, vup (nV A) c (((nV A) c).1, cput ((nV A) c).2 nm e), nM A, nIp A, nS A, nO A, nB A, ((nY A).1, (nY A).2)) (cao (nO A))) c).2 = cput ((nV A) c).2 nm e := by
      show (vup (nV A) c (((nV A) c).1, cput ((nV A) c).2 nm e) c).2 = _
      unfold vup
      rw [if_pos rfl]
    rw [e9] at cr9
    exact B18_90 ⟨_, cr9.1, rfl⟩ (K h' N' z4 (ofr_tr o3 o4 (Nat.le_refl _)))
  refine B18_42 (fun g2 => go (fun y => ?_)) (fun g2 => ?_)
  · rcases y with y | y
    · exact hne y
    · exact g2 ((oI_neg hpl).mpr y.1)
  · have hpn : pof nm ((nV A) c).2 = none := (oI_neg hpl).mp g2
    refine B18_45 ⟨_, ccr.1, rfl⟩ (fun g3 => go (fun y => ?_)) (fun g3 => ?_)
    · have h4 := (i3_lt (by have := ccc.1; omega) (by omega)).mp g3
      rcases y with y | y
      · exact hne y
      · omega
    · obtain ⟨k1, k2⟩ := Kx (Or.inr ⟨hpn, (i3_ge (by have := ccc.1; omega) (by omega)).mp g3⟩)
      exact B18_53 k1 k2
end P2
