/-! Cellbrook: branches and questions. -/
theorem B27_21b {SC : List Value} {d s : Nat} {h : re_H} {Q : Nat → Value → re_H → Prop} {a0 : Nat} {as0 : Nat}
    {c : Nat} {w : List Value} (eg : re_hg h as0 = some (c, w)) (ec : c = 1) {s1 s2 : Nat} (hs : s1 + s2 ≤ s) (K : wp SC 64 d s1 0 [(0, .ref as0)] [] h (wp_ret SC 27 (d + 1) s2 25 [(0, .ref a0)] [.ref as0] Q)) : wp SC 27 (d + 1) s 21 [(0, .ref a0)] [.ref as0] h Q := by
  refine wp_run 1 (pc' := 22) (lv' := [(0, .ref a0)]) (st' := [.ref as0, .ref as0]) rfl ?_
  have eA : lv_args 0 (.ref as0 :: [].reverse) = [(0, .ref as0)] := by simp [lv_args, vc_i, vc_l, vc_r, vc_n, vc_a]
  refine wp_callI (ar := []) (rest := [.ref as0]) (s1 := s1) (s2 := s2) (d' := d) ⟨rfl, rfl⟩ rfl (Or.inl rfl)  (by simp [re_cat, vc_i, vc_l, vc_r, vc_n, vc_a]) (by rw [show re_cat (.ref as0 :: [].reverse) = 1 from by simp [re_cat, vc_i, vc_l, vc_r, vc_n, vc_a]]; decide) (by decide) rfl eg ec rfl hs ?_
  rw [eA]
  exact wp_mono K (fun k v h' z => wp_ret_weak (re_sb_at rfl (re_sb_nil _)) z)
section P4
variable {SC : List Value} {d q : Nat} {h : re_H} {Q : Nat → Value → re_H → Prop} {b ff W : Nat} {A : Nb} {N : List Nat}
def kpV (V : Vr) : Vr := fun i => if i < 12 then V i else (false, [])
def aKp (A : Nb) : Nb := (nP A, nV A, nM A, nIp A, nS A, nO A, nB A ++ [kpV (nV A)], nY A)
theorem NB_bl (z : NB h b A N ff W) : (nB A).length ≤ 4 := by obtain ⟨bs, -, -, y, -⟩ := z.2.2.1; exact y
theorem c27 (z : NB h b A N ff W) (Kx : (nB A).length = 4 → 0 < q ∧ Q 4 .null h) (K : (nB A).length < 4 → 2 ≤ q ∧ ∀ h', NB h' b (aKp A) N ff W → ofr b 39 h N h' N → Q 1 (.int (i32 (nB A).length)) h') : wp SC 27 (d + 3) q 0 [(0, .ref b)] [] h Q := by
  have hbl := NB_bl z
  refine B27_0 ⟨_, z.1, rfl⟩ (fun g => ?_) (fun g => ?_)
  rotate_left
  · obtain ⟨k1, k2⟩ := Kx (by have := (i3_ge (by omega) (by omega)).mp g; omega)
    exact B27_8 k1 k2
  have hlt := (i3_lt (by omega) (by omega)).mp g
  obtain ⟨hq, K⟩ := K hlt
  obtain ⟨z1, z2, z3, z4, z5, z6, z7, z8, z9, z10, z11, z12⟩ := id z
  have hl := NB_top z
  have v0 := NB_vr z
  obtain ⟨bs, y1, y2, y3, y4, y5⟩ := id z3
  obtain ⟨S, hS⟩ : ∃ S : Nat → Prop, S = fun a => a = b ∨ a = b + 300 ∨ h.1 ≤ a := ⟨_, rfl⟩
  have sI : ∀ a, S a ↔ a = b ∨ a = b + 300 ∨ h.1 ≤ a := fun a => by rw [hS]
  refine B27_18 ?_
  obtain ⟨hA, eA⟩ : ∃ hA, hA = re_hq h (1, [.null, .null]) := ⟨_, rfl⟩
  rw [← eA]
  have A1 : hA.1 = h.1 + 1 := by rw [eA, hq_1]
  have Ap : re_hg hA h.1 = some (1, [.null, .null]) := by rw [eA]; exact hq_s
  have mA : mo S 1 h hA := by rw [eA]; exact ⟨kp_hq, xk_hq, Nat.le_refl _⟩
  refine B27_21b Ap rfl (s1 := 2) (s2 := q - 2) (by omega) (wp_up (d := 0 + 1) (s := 0 + 2) (by omega) (Nat.le_refl _) (c64 Ap rfl A1 (fun hB vB mB lB => ret0 ?_)))
  have mAB : mo S 39 h hB := mo_tr mA (mo_mono mB (fun a _ y => (sI a).mpr (Or.inr (Or.inr (by have : a = h.1 := y; omega)))) (Nat.le_refl _)) (Nat.le_refl _)
  have hdB : re_hg hB b = some (0, hdw b (nP A).length (nM A) (nO A) (nB A).length) := by
    rw [mB.1.2 _ (by omega) (by show ¬ b = h.1; omega), eA, hq_o (by omega)]; exact z1
  have vVB : vr hB (b + 2) (nV A) := vr_fr (fun a ha => by
    unfold inV at ha
    rw [mB.1.2 _ (by omega) (by show ¬ a = h.1; omega), eA, hq_o (by omega)]) (by rw [eA] at mB; exact xk_tr xk_hq mB.2.1) v0
  refine B27_25 ⟨_, hdB, rfl⟩ vB.1 rfl (wp_up (d := 2) (by omega) (Nat.le_refl _) (c69 (d := 0) vB vVB (Or.inr (by omega)) (fun hC vC mC => ret0 ?_)))
  have mAC : mo S 39 h hC := mo_tr mAB (mo_mono mC (fun a _ y => (sI a).mpr (Or.inr (Or.inr (by unfold inV at y; omega)))) (Nat.le_refl _)) (m := 0) (Nat.le_refl _)
  have hdC : re_hg hC b = some (0, hdw b (nP A).length (nM A) (nO A) (nB A).length) := mo_g mC (fun y => by unfold inV at y; omega) hdB
  have brC : re_hg hC (b + 300) = some (107, bs) := by
    rw [mC.1.2 _ (by omega) (fun y => by unfold inV at y; omega), mB.1.2 _ (by omega) (by show ¬ b + 300 = h.1; omega), eA, hq_o (by omega)]; exact y1
  refine B27_34 ⟨_, hdC, rfl⟩ ⟨_, hdC, rfl⟩ brC rfl (by omega) (by omega) (Or.inr ⟨_, _, rfl, vC.1⟩) ?_
  obtain ⟨hD, eD⟩ : ∃ hD, hD = re_hw hC (b + 300) (107, bs.set (nB A).length (.ref h.1)) := ⟨_, rfl⟩
  rw [← eD]
  have mD : mo S 0 hC hD := by rw [eD]; exact mo_hw brC (by omega) ((sI _).mpr (Or.inr (Or.inl rfl)))
  have hdD : re_hg hD b = some (0, hdw b (nP A).length (nM A) (nO A) (nB A).length) := by rw [eD, hw_n (by omega)]; exact hdC
  have brD : re_hg hD (b + 300) = some (107, bs.set (nB A).length (.ref h.1)) := by rw [eD]; exact hw_s (hg_lt brC)
  refine B27_44 ⟨_, hdD, rfl⟩ hdD (by show 10 < 11; omega) ?_
  rw [i3_add]
  obtain ⟨hE, eE⟩ : ∃ hE, hE = re_hw hD b (0, (hdw b (nP A).length (nM A) (nO A) (nB A).length).set 10 (.int (i32 ((nB A).length + 1)))) := ⟨_, rfl⟩
  rw [← eE]
  have mE : mo S 0 hD hE := by rw [eE]; exact mo_hw hdD (by omega) ((sI _).mpr (Or.inl rfl))
  have hdE : re_hg hE b = some (0, hdw b (nP A).length (nM A) (nO A) ((nB A).length + 1)) := by rw [eE]; exact hw_s (hg_lt hdD)
  have brE : re_hg hE (b + 300) = some (107, bs.set (nB A).length (.ref h.1)) := by rw [eE, hw_n (by omega)]; exact brD
  have mm : mo S 39 h hE := mo_tr mAC (mo_tr mD mE (Nat.le_refl _)) (m := 0) (Nat.le_refl _)
  have mH : mo (inH b) 39 h hE := mo_mono mm (fun a ha y => by have := (sI a).mp y; unfold inH; omega) (Nat.le_refl _)
  have fr : ∀ a, h.1 ≤ a → re_hg hE a = re_hg hC a := fun a ha => by rw [eE, hw_n (by omega), eD, hw_n (by omega)]
  refine B27_55 (K hE ⟨?_, pil_fr (mm.1.2 _ (by omega) (fun y => by have := (sI _).mp y; omega)) mm.2.1 z2, ⟨_, brE, by rw [List.length_set]; exact y2, ?_, fun i U hi => ?_, fun i h1 h2 => ?_⟩, nbx_h z4 mH, z5, z6, Nat.le_trans z7 mm.1.1, z8, z9, z10, z11, fun U hU => ?_⟩ (ofr_mo mH (fun a y => by unfold inH at y; omega)))
  · show re_hg hE b = some (0, hdw b (nP A).length (nM A) (nO A) (nB A ++ [kpV (nV A)]).length)
    rw [List.length_append]
    exact hdE
  · show (nB A ++ [kpV (nV A)]).length ≤ 4
    rw [List.length_append]
    show (nB A).length + 1 ≤ 4
    omega
  · have hi : (nB A ++ [kpV (nV A)])[i]? = some U := hi
    rcases Nat.lt_or_ge i (nB A).length with g2 | g2
    · rw [List.getElem?_append_left g2] at hi
      obtain ⟨p, w1, w2, w3⟩ := y4 i U hi
      refine ⟨p, by rw [List.getElem?_set_ne (by omega)]; exact w1, w2, vr_fr (fun a ha => mm.1.2 a (by have := vr_top w3; unfold inV at ha; omega) (fun y => ?_)) mm.2.1 w3⟩
      have h1 := (sI a).mp y
      have := vr_top w3
      unfold inV at ha
      omega
    · have hlt2 := (List.getElem?_eq_some_iff.mp hi).1
      rw [List.length_append] at hlt2
      have hlt2 : i < (nB A).length + 1 := hlt2
      cases (show i = (nB A).length by omega)
      rw [getEnd] at hi
      cases hi
      refine ⟨h.1, List.getElem?_set_self (by omega), z7, vr_fr (fun a ha => fr a (by unfold inV at ha; omega)) (xk_tr mD.2.1 mE.2.1) vC⟩
  · have h1 : (nB A ++ [kpV (nV A)]).length ≤ i := h1
    rw [List.length_append] at h1
    have h1 : (nB A).length + 1 ≤ i := h1
    rw [List.getElem?_set_ne (by omega)]
    exact y5 i (by omega) h2
  · rcases List.mem_append.mp (show U ∈ nB A ++ [kpV (nV A)] from hU) with y | y
    · exact z12 U y
    · rw [List.mem_singleton.mp y]
      intro c hc x hx
      unfold kpV at hx
      rw [if_pos hc] at hx
      exact z9.1 c hc x hx
/-- the branch that is named -/
theorem c29 {k : Nat} {U : Vr} (hU : (nB A)[k]? = some U) (z : NB h b A N ff W) (K : ∀ p, 603 ≤ p → vr h p U → Q 3 (.ref p) h) : wp SC 29 d q 0 [(0, .ref b), (1, .int (i32 k))] [] h Q := by
  have hbl := NB_bl z
  have hk := (List.getElem?_eq_some_iff.mp hU).1
  obtain ⟨bs, y1, y2, y3, y4, y5⟩ := z.2.2.1
  obtain ⟨p, w1, w2, w3⟩ := y4 k U hU
  exact B29_0 (fun g => absurd g (i3_neg (by omega))) (fun _ => B29_4 ⟨_, z.1, rfl⟩ (fun _ => B29_16 ⟨_, z.1, rfl⟩ (Or.inr ⟨p, rfl⟩) ⟨_, k, y1, rfl, by omega, w1⟩ (B29_22 (Or.inr ⟨p, rfl⟩) (fun y => by cases y) (fun b1 hb => by cases hb; exact B29_38 (K p w2 w3)))) (fun g => absurd ((i3_lt (by omega) (by omega)).mpr hk) g))
theorem c29x {x : Int32} (hx : x < 0 ∨ ¬ x < i32 (nB A).length) (z : NB h b A N ff W) (hq : 0 < q) (K : Q 6 .null h) : wp SC 29 d q 0 [(0, .ref b), (1, .int x)] [] h Q :=
  B29_0 (fun _ => B29_12 (B29_22 (Or.inl rfl) (fun _ => B29_27 hq K) (fun b1 y => by cases y))) (fun g => B29_4 ⟨_, z.1, rfl⟩ (fun g2 => hx.elim (fun y => absurd y g) (fun y => absurd g2 y)) (fun _ => B29_12 (B29_22 (Or.inl rfl) (fun _ => B29_27 hq K) (fun b1 y => by cases y))))
noncomputable def smC (V U : Vr) (c : Nat) : Bool := (V c).1 == (U c).1 && ceq (V c).2 (U c).2
noncomputable def dff (V U : Vr) : Nat → Nat
  | 0 => 0
  | k + 1 => if smC V U k = true then dff V U k else dff V U k ||| 2 ^ k
theorem dff_lt (V U : Vr) : ∀ k, dff V U k < 2 ^ k
  | 0 => by show 0 < 1; omega
  | k + 1 => by
    have ih := dff_lt V U k
    have h1 : dff V U k < 2 ^ (k + 1) := Nat.lt_trans ih (Nat.pow_lt_pow_right (by decide) (Nat.lt_succ_self k))
    show (if smC V U k = true then dff V U k else dff V U k ||| 2 ^ k) < 2 ^ (k + 1)
    split
    · exact h1
    · exact Nat.or_lt_two_pow h1 (Nat.pow_lt_pow_right (by decide) (Nat.lt_succ_self k))
theorem c30 {k : Nat} {U : Vr} (hU : (nB A)[k]? = some U) (z : NB h b A N ff W) (K : Q 1 (.int (i32 (dff (nV A) U 12))) h) : wp SC 30 (d + 33) q 0 [(0, .ref b), (1, .int (i32 k))] [] h Q := by
  have v0 := NB_vr z
  refine B30_0 z.1 rfl (s1 := 0) (s2 := q) (by omega) (c29 hU z (fun p hp vp => ret3 (B30_5 (Or.inr ⟨p, rfl⟩) ?_)))
  have loop : ∀ (k2 n : Nat), n + k2 = 12 → wp SC 30 (d + 33) q 11 [(0, .ref b), (2, .ref p), (3, .int (i32 (dff (nV A) U n))), (4, .int (i32 n))] [] h Q := by
    intro k2
    induction k2 with
    | zero =>
      intro n hn
      cases (show n = 12 by omega)
      exact B30_11 (Or.inr ⟨p, rfl⟩) (fun _ => B30_44 K) (fun g => absurd ((i3_lt (by omega) (by omega)).mp g) (by omega))
    | succ k2 ih =>
      intro n hn
      have e9 : dff (nV A) U (n + 1) = if smC (nV A) U n = true then dff (nV A) U n else dff (nV A) U n ||| 2 ^ n := rfl
      refine B30_11 (Or.inr ⟨p, rfl⟩) (fun g => absurd ((i3_lt (by omega) (by omega)).mpr (by omega)) g) (fun _ => B30_18 (Or.inr ⟨p, rfl⟩) ⟨_, z.1, rfl⟩ v0.1 rfl (c71 (by omega) v0 vp (ret1 (B30_28 (Or.inr ⟨p, rfl⟩) (fun g => ?_) (fun g => ?_)))))
      · have hs : smC (nV A) U n = true := by
          cases hh : smC (nV A) U n with
          | true => rfl
          | false => exact absurd (show ib (smC (nV A) U n) = 0 by rw [hh]; rfl) g
        rw [if_pos hs] at e9
        refine B30_38 (Or.inr ⟨p, rfl⟩) ?_
        rw [i3_add, ← e9]
        exact ih (n + 1) (by omega)
      · have hs : ¬ smC (nV A) U n = true := fun y => by
          have g : ib (smC (nV A) U n) = 0 := g
          rw [y] at g
          exact absurd g (by decide)
        rw [if_neg hs] at e9
        refine B30_31 (Or.inr ⟨p, rfl⟩) (B30_38 (Or.inr ⟨p, rfl⟩) ?_)
        rw [i3_shl (by omega), i3_or, i3_add, ← e9]
        exact ih (n + 1) (by omega)
  exact loop 12 0 rfl
theorem c30x {x : Int32} (hx : x < 0 ∨ ¬ x < i32 (nB A).length) (z : NB h b A N ff W) (hq : 0 < q) (K : Q 6 .null h) : wp SC 30 (d + 1) q 0 [(0, .ref b), (1, .int x)] [] h Q :=
  B30_0 z.1 rfl (s1 := q) (s2 := 0) (by omega) (c29x hx z hq (retx (x := 2) K))
/-- a cell's code is taken -/
def tkR (A : Nb) (U : Vr) (c : Nat) : Nat → Rs := if ((nV A) c).1 = (U c).1 then (nY A).1 else fgt (nY A).1 c
def aTk (A : Nb) (U : Vr) (c : Nat) : Nb := (nP A, vup (nV A) c (U c), nM A, nIp A, nS A, nO A, nB A, (tkR A U c, (nY A).2))
theorem c28 {k c : Nat} {U : Vr} (hU : (nB A)[k]? = some U) (hc : c < nM A) (z : NB h b A N ff W) (hL : rmL (nY A).1 W) (hff : ff + 40000 < 2 ^ 62) (hW : W ≤ 400000) (K0 : smC (nV A) U c = true → Q 1 (.int 0) h) (K : ¬ smC (nV A) U c = true → ∀ h' N', NB h' b (aS (aTk A U c) (cao (nO A))) N' (ff + 36000) W → ofr b 0 h N h' N' → Q 1 (.int (i32 1)) h') : wp SC 28 (d + 35) q 0 [(0, .ref b), (1, .int (i32 k)), (2, .int (i32 c))] [] h Q := by
  obtain ⟨h12, ho2⟩ := NB_md z
  have hl := NB_top z
  have v0 := NB_vr z
  refine B28_0 z.1 rfl (s1 := 0) (s2 := q) (by omega) (c29 hU z (fun p hp vp => ret3 ?_))
  have rp : re_R (.ref p) := Or.inr ⟨p, rfl⟩
  refine B28_5 rp (fun g => absurd g (i3_neg (by omega))) (fun _ => B28_10 rp ⟨_, z.1, rfl⟩ (fun _ => ?_) (fun g => absurd ((i3_lt (by omega) (by omega)).mpr hc) g))
  refine B28_28 rp ⟨_, z.1, rfl⟩ v0.1 rfl (wp_up (d := d + 32) (by omega) (Nat.le_refl _) (c71 (by omega) v0 vp (ret1 (B28_37 rp (fun g => ?_) (fun g => B28_40 (K0 ?_))))))
  rotate_left
  · cases hh : smC (nV A) U c with
    | true => rfl
    | false => exact absurd (show ib (smC (nV A) U c) = 0 by rw [hh]; rfl) g
  have hs : ¬ smC (nV A) U c = true := fun y => by
    have g : ib (smC (nV A) U c) = 0 := g
    rw [y] at g
    exact absurd g (by decide)
  have K := K hs
  have hU' : U ∈ nB A := List.mem_of_getElem? hU
  have wU : vwf U := z.2.2.2.2.2.2.2.2.2.2.2 U hU'
  obtain ⟨E, F, ho, la, f0, y1, y2⟩ := id z.2.2.2.1
  -- from the place where the code is copied
  have cpy : ∀ h1, mo (fun a => inR (b + 50 + 1 + 10 * c) a) 0 h h1 → rall h1 E (b + 50) (tkR A U c) → wp SC 28 (d + 35) q 68 [(0, .ref b), (2, .int (i32 c)), (3, .ref p)] [] h1 Q := by
    intro h1 m1 ra1
    have s1 : re_hg h1 b = some (0, hdw b (nP A).length (nM A) (nO A) (nB A).length) := mo_g m1 (fun y => by unfold inR at y; omega) z.1
    have v1 : vr h1 (b + 2) (nV A) := vr_mo m1 (fun a ha y => by unfold inV at ha; unfold inR at y; omega) (by omega) v0
    have vp1 : vr h1 p U := vr_mo m1 (fun a ha y => by unfold inV at ha; unfold inR at y; have := z.2.2.2.2.2.1; omega) (vr_top vp) vp
    refine B28_68 rp ⟨_, s1, rfl⟩ v1.1 rfl (wp_up (d := 1) (by omega) (Nat.le_refl _) (c70 (d := 0) (by omega) v1 vp1 (Or.inl (by have := z.2.2.2.2.2.1; omega)) (fun h2 v2 m2 => ret0 ?_)))
    have m3 : mo (fun a => inR (b + 50 + 1 + 10 * c) a ∨ inV (b + 2) a) 0 h h2 := mo_tr (mo_mono m1 (fun a _ y => Or.inl y) (Nat.le_refl _)) (mo_mono m2 (fun a _ y => Or.inr y) (Nat.le_refl _)) (Nat.le_refl _)
    have mN : mo (inN b) 0 h h2 := mo_mono m3 (fun a _ y => by unfold inR inV at y; unfold inN; omega) (Nat.le_refl _)
    have mN1 : mo (inN b) 0 h h1 := mo_mono m1 (fun a _ y => by unfold inR at y; unfold inN; omega) (Nat.le_refl _)
    have p2 : ph h2 b (nP A) (nM A) (nO A) (nB A).length := ph_fr (m3.1.2 _ (by omega) (fun y => by unfold inV inR at y; omega)) (m3.1.2 _ (by omega) (fun y => by unfold inV inR at y; omega)) (fun e' v' y => ex_xk m3.2.1 y) (NB_ph z)
    have lk2 : re_hg h2 (b + 41) = re_hg h (b + 41) := m3.1.2 _ (by omega) (fun y => by unfold inV inR at y; omega)
    have ra2 : rall h2 E (b + 50) (tkR A U c) := rall_fr (fun a ha => m2.1.2 a (by have := m1.1.1; omega) (fun y => by unfold inV at y; omega)) (fun x hx => by rw [bk_nd y1 mN x hx, bk_nd y1 mN1 x hx]) m2.2.1 (eLe_rf E) ra1
    have mT : mwf (nV A) (tkR A U c) := by
      unfold tkR
      split
      · exact NB_m z
      · exact mwf_fgt (NB_m z)
    have rT : rmL (tkR A U c) W := by
      unfold tkR
      split
      · exact hL
      · exact rmL_fgt hL
    refine B28_77 ⟨_, p2.1, rfl⟩ (lk2.trans (lk_c (NB_lk z))) rfl (wp_up (d := d + 2) (by omega) (Nat.le_refl _) (fol (RR' := tkR A U c) z m3 (fun a y => ⟨?_, ?_, ?_, ?_, ?_⟩) p2 h12 v2 (vwf_up (NB_m z).1 (fun x hx => wU c (by omega) x hx)) mT (fun e' y => y) ⟨E, F, ho, la, f0, y1, y2, ra2⟩ (fun h3 z3 o3 => ret0 ?_)))
    all_goals try (unfold inV inR at y; first | (unfold inN; omega) | (unfold inL; omega) | omega)
    exact B28_84 ⟨_, z3.1, rfl⟩ z3.1 rfl (c17 z3.1 ho2 (ret1 (B28_92 (NB_sh z3) rfl (sv (cao_lt _) z3 rT hff hW (fun h' N' z4 o4 _ => ret1 (B28_95 (K h' N' z4 (ofr_tr o3 o4 (Nat.le_refl _)))))))))
  have a1 : nb_ar h (b + 2 + 1) 102 (i32 c) (.int (ib ((nV A) c).1)) := ⟨_, c, v0.2.1, rfl, by omega, lst_get (fun i => .int (ib ((nV A) i).1)) (by omega)⟩
  have a2 : nb_ar h (p + 1) 102 (i32 c) (.int (ib (U c).1)) := ⟨_, c, vp.2.1, rfl, by omega, lst_get (fun i => .int (ib (U i).1)) (by omega)⟩
  refine B28_42 rp ⟨_, z.1, rfl⟩ ⟨_, v0.1, rfl⟩ a1 rfl ⟨_, vp.1, rfl⟩ a2 (fun g2 => cpy h mo_rf ?_) (fun g2 => ?_)
  · have he : ((nV A) c).1 = (U c).1 := by
      cases h1 : ((nV A) c).1 <;> cases h2 : (U c).1 <;> rw [h1, h2] at g2 <;> first | rfl | exact absurd g2 (by decide)
    unfold tkR
    rw [if_pos he]
    exact y1.2.1
  · have he : ¬ ((nV A) c).1 = (U c).1 := fun y => g2 (by rw [y])
    have hh : hld h E := sth_hld y1.2.2.1
    refine B28_60 rp ⟨_, z.1, rfl⟩ (NB_sh z) rfl (wp_up (d := 2) (by omega) (Nat.le_refl _) (c521r (d := 0) (st0 := 0) (by omega) (by omega) (NB_sh z) y1.2.1 hh (fun h1 r1 m1 k1 => ret0 ?_)))
    rw [Nat.zero_add] at r1 m1
    refine cpy h1 m1 ?_
    unfold tkR
    rw [if_neg he]
    exact rall_rs (i := c) (by omega) y1.2.1 (by omega) m1 k1 r1
theorem c28x {x : Int32} {k : Nat} {v : Int32} (hx : (v = i32 k ∧ (∃ U, (nB A)[k]? = some U) ∧ (x < 0 ∨ ¬ x < i32 (nM A))) ∨ (v < 0 ∨ ¬ v < i32 (nB A).length)) (z : NB h b A N ff W) (hq : 0 < q) (K : Q 6 .null h) : wp SC 28 (d + 1) q 0 [(0, .ref b), (1, .int v), (2, .int x)] [] h Q := by
  rcases hx with ⟨rfl, ⟨U, hU⟩, hx⟩ | hx
  · refine B28_0 z.1 rfl (s1 := 0) (s2 := q) (by omega) (c29 hU z (fun p hp vp => ret3 (B28_5 (Or.inr ⟨p, rfl⟩) (fun _ => B28_18 hq K) (fun g => B28_10 (Or.inr ⟨p, rfl⟩) ⟨_, z.1, rfl⟩ (fun g2 => hx.elim (fun y => absurd y g) (fun y => absurd g2 y)) (fun _ => B28_18 hq K)))))
  · exact B28_0 z.1 rfl (s1 := q) (s2 := 0) (by omega) (c29x hx z hq (retx (x := 2) K))
/-! The questions. -/
theorem NB_rs {c : Nat} (hc : c < 12) (z : NB h b A N ff W) : ∃ E, rs h E (b + 50 + 1 + 10 * (0 + c)) ((nY A).1 (0 + c)) ∧ rall h E (b + 50) (nY A).1 := by
  obtain ⟨E, F, ho, la, f0, y1, y2⟩ := id z.2.2.2.1
  exact ⟨E, y1.2.1.2 _ (by omega), y1.2.1⟩
theorem c31 {c : Nat} (hc : c < 12) (ht : ((nV A) c).1 = true) (z : NB h b A N ff W) (K : Q 1 (.int ((nY A).1 c).1) h) : wp SC 31 (d + 1) q 0 [(0, .ref b), (1, .int (i32 c))] [] h Q := by
  obtain ⟨E, zr, za⟩ := NB_rs hc z
  rw [show (nY A).1 c = (nY A).1 (0 + c) by rw [Nat.zero_add]] at K
  exact B31_0 z.1 rfl (s1 := 0) (s2 := q) (by omega) (c19 hc ht z.1 (NB_vr z) (ret0 (B31_5 ⟨_, z.1, rfl⟩ (NB_sh z) rfl (c515 (NB_sh z) za (by omega) (ret3 (B31_13 ⟨_, rs_0 zr, rfl⟩ K))))))
theorem c39 {c : Nat} (hc : c < 12) (ht : ((nV A) c).1 = true) (z : NB h b A N ff W) (K : Q 1 (.int (i32 ((nY A).1 c).2.1)) h) : wp SC 39 (d + 1) q 0 [(0, .ref b), (1, .int (i32 c))] [] h Q := by
  obtain ⟨E, zr, za⟩ := NB_rs hc z
  rw [show (nY A).1 c = (nY A).1 (0 + c) by rw [Nat.zero_add]] at K
  exact B39_0 z.1 rfl (s1 := 0) (s2 := q) (by omega) (c19 hc ht z.1 (NB_vr z) (ret0 (B39_5 ⟨_, z.1, rfl⟩ (NB_sh z) rfl (c515 (NB_sh z) za (by omega) (ret3 (B39_13 ⟨_, rs_0 zr, rfl⟩ K))))))
theorem c37 {c : Nat} (hc : c < 12) (ht : ((nV A) c).1 = true) (z : NB h b A N ff W) (K : Q 1 (.int (i32 (rds ((nV A) c).2))) h) : wp SC 37 (d + 1) q 0 [(0, .ref b), (1, .int (i32 c))] [] h Q := by
  have a3 := lk_at (NB_lk z) (j := 3) (i := c) (by omega) (by omega) (by show c < 12; exact hc)
  exact B37_0 z.1 rfl (s1 := 0) (s2 := q) (by omega) (c19 hc ht z.1 (NB_vr z) (ret0 (B37_5 ⟨_, z.1, rfl⟩ ⟨_, lk_c (NB_lk z), rfl⟩ a3 K)))
theorem c38 {c : Nat} (hc : c < 12) (ht : ((nV A) c).1 = true) (z : NB h b A N ff W) (K : Q 1 (.int (i32 (wn (nV A) 12 c ||| 2 ^ c))) h) : wp SC 38 (d + 1) q 0 [(0, .ref b), (1, .int (i32 c))] [] h Q := by
  have a5 : nb_ar h (b + 41 + 5) 100 (i32 c) (.int (i32 (wn (nV A) 12 c))) := lk_at (NB_lk z) (j := 5) (i := c) (by omega) (by omega) (by show c < 12; exact hc)
  refine B38_0 z.1 rfl (s1 := 0) (s2 := q) (by omega) (c19 hc ht z.1 (NB_vr z) (ret0 (B38_5 ⟨_, z.1, rfl⟩ ⟨_, lk_c (NB_lk z), rfl⟩ a5 ?_)))
  rw [i3_shl (by omega), i3_or]
  exact K
theorem stB_lt {V : Vr} {m : Nat} (hm : m < 2 ^ 12) : ∀ n, n ≤ 12 → stB V m n < 2 ^ 12
  | 0, _ => hm
  | n + 1, hn => by
    have ih := stB_lt (V := V) hm n (by omega)
    show (if wr V n = 0 ∧ ¬ dim V n 16 &&& stB V m n = 0 then stB V m n ||| 2 ^ n else stB V m n) < 2 ^ 12
    split
    · exact Nat.or_lt_two_pow ih (Nat.pow_lt_pow_right (by decide) (by omega))
    · exact ih
theorem stC_lt {V : Vr} {m : Nat} (hm : m < 2 ^ 12) : ∀ r, stC V m r < 2 ^ 12
  | 0 => hm
  | r + 1 => stB_lt (stC_lt hm r) 12 (Nat.le_refl _)
theorem stA_lt {V : Vr} {RR : Nat → Rs} {st0 : Nat} {I : Nat → Int64} {sd : Int32} : ∀ n, n ≤ 12 → stA V RR st0 I sd n < 2 ^ 12
  | 0, _ => by show 0 < 4096; omega
  | n + 1, hn => by
    have ih := stA_lt (V := V) (RR := RR) (st0 := st0) (I := I) (sd := sd) n (by omega)
    show (if (vcl V 12).testBit n = true ∧ sti V RR st0 I sd n = true then stA V RR st0 I sd n ||| 2 ^ n else stA V RR st0 I sd n) < 2 ^ 12
    split
    · exact Nat.or_lt_two_pow ih (Nat.pow_lt_pow_right (by decide) (by omega))
    · exact ih
/-- the stale cells -/
noncomputable def stl8 (A : Nb) : Nat := stC (nV A) (stA (nV A) (nY A).1 0 (nIp A) (nS A) 12) 12
theorem c32 {c : Nat} (hc : c < 12) (ht : ((nV A) c).1 = true) (z : NB h b A N ff W) (K : Q 1 (.int (ib ((stl8 A).testBit c))) h) : wp SC 32 (d + 35) q 0 [(0, .ref b), (1, .int (i32 c))] [] h Q := by
  obtain ⟨E, F, ho, la, f0, y1, y2⟩ := id z.2.2.2.1
  have hs : stl8 A < 2 ^ 12 := stC_lt (stA_lt 12 (Nat.le_refl _)) 12
  refine B32_0 z.1 rfl (s1 := 0) (s2 := q) (by omega) (c19 hc ht z.1 (NB_vr z) (ret0 (B32_5 ⟨_, z.1, rfl⟩ (NB_sh z) rfl (c522 (vcl_lt _ 12) (Or.inl ⟨rfl, rfl⟩) y1 (ret1 ?_)))))
  have e9 : i32 (stl8 A) >>> (i32 c &&& 31) &&& i32 1 = if (stl8 A).testBit c then i32 1 else i32 0 := i3_bit (by omega) (by omega)
  refine B32_12 (fun g => B32_24 (B32_25 (Or.inl rfl) ?_)) (fun g => B32_20 (B32_25 (Or.inr rfl) ?_))
  · have hb : (stl8 A).testBit c = false := by
      cases hh : (stl8 A).testBit c with
      | false => rfl
      | true => exact absurd (by rw [show i32 (stC (nV A) (stA (nV A) (nY A).1 0 (nIp A) (nS A) 12) 12) = i32 (stl8 A) from rfl, e9, hh]; rfl) g
    rw [hb] at K
    exact K
  · have hb : (stl8 A).testBit c = true := by
      cases hh : (stl8 A).testBit c with
      | true => rfl
      | false =>
        rw [show i32 (stC (nV A) (stA (nV A) (nY A).1 0 (nIp A) (nS A) 12) 12) = i32 (stl8 A) from rfl, e9, hh] at g
        exact absurd g (by decide)
    rw [hb] at K
    exact K
theorem c33 {c nm : Nat} (hc : c < 12) (hn : nm < 16) (ht : ((nV A) c).1 = true) (z : NB h b A N ff W) (K : Q 1 (.int (i32 (knd (lkp nm (rK ((nY A).1 c)))))) h) : wp SC 33 (d + 2) q 0 [(0, .ref b), (1, .int (i32 c)), (2, .int (i32 nm))] [] h Q := by
  obtain ⟨E, zr, za⟩ := NB_rs hc z
  rw [show (nY A).1 c = (nY A).1 (0 + c) by rw [Nat.zero_add]] at K
  exact B33_0 z.1 rfl (s1 := 0) (s2 := q) (by omega) (c19 hc ht z.1 (NB_vr z) (ret0 (B33_5 z.1 rfl (s1 := 0) (s2 := q) (by omega) (c5 hn (ret0 (B33_10 ⟨_, z.1, rfl⟩ (NB_sh z) rfl (c515 (NB_sh z) za (by omega) (ret3 (B33_18 (rs_0 zr) rfl (c322 hn zr (ret1 (B33_22 K))))))))))))
theorem knd_1 {o : Option Tr} (h : knd o = 1) : ∃ v, o = some v ∧ ¬ isC v = true := by
  cases o with
  | none => exact absurd h (by decide)
  | some v =>
    refine ⟨v, rfl, fun y => ?_⟩
    rw [knd_s, if_pos y] at h
    omega
theorem c34 {c nm : Nat} (hc : c < 12) (hn : nm < 16) (ht : ((nV A) c).1 = true) (z : NB h b A N ff W) (Kx : ¬ knd (lkp nm (rK ((nY A).1 c))) = 1 → 0 < q ∧ Q 4 .null h) (K : ∀ v, lkp nm (rK ((nY A).1 c)) = some v → ¬ isC v = true → Q 2 (.long (num v)) h) : wp SC 34 (d + 2) q 0 [(0, .ref b), (1, .int (i32 c)), (2, .int (i32 nm))] [] h Q := by
  obtain ⟨E, zr, za⟩ := NB_rs hc z
  rw [show (nY A).1 c = (nY A).1 (0 + c) by rw [Nat.zero_add]] at K Kx
  have hk := knd_le (lkp nm (rK ((nY A).1 (0 + c))))
  refine B34_0 z.1 rfl (s1 := 0) (s2 := q) (by omega) (c19 hc ht z.1 (NB_vr z) (ret0 (B34_5 z.1 rfl (s1 := 0) (s2 := q) (by omega) (c5 hn (ret0 (B34_10 ⟨_, z.1, rfl⟩ (NB_sh z) rfl (c515 (NB_sh z) za (by omega) (ret3 (B34_18 (rs_0 zr) rfl (c322 hn zr (ret1 (B34_24 (fun g => ?_) (fun g => ?_)))))))))))))
  · obtain ⟨v, hv, hc'⟩ := knd_1 ((i3_eq (by omega) (by omega)).mp g)
    refine B34_38 (rs_0 zr) rfl (c324 hn zr (ret2 (B34_43 ?_)))
    rw [hv, mrk_s, if_neg hc']
    exact K v hv hc'
  · obtain ⟨k1, k2⟩ := Kx (fun y => g (by rw [y]))
    exact B34_28 k1 k2
/-- all is found anew -/
noncomputable def aA (A : Nb) : Nb := (nP A, nV A, nM A, nIp A, nS A, nO A, nB A, (stl (nV A) (nIp A) (nS A) 12 4095 (fga (nY A).1 12 12, (nY A).2)).2.2)
theorem fga_K {RR : Nat → Rs} {st0 : Nat} : ∀ (n i : Nat), rK (fga RR st0 n i) = [] ∨ rK (fga RR st0 n i) = rK (RR i)
  | 0, i => Or.inr rfl
  | n + 1, i => by
    show rK (fgt (fga RR st0 n) (st0 + n) i) = [] ∨ rK (fgt (fga RR st0 n) (st0 + n) i) = rK (RR i)
    unfold fgt
    split
    · exact Or.inl rfl
    · exact fga_K n i
theorem anw {y : Nat} (z : NB h b A N ff W) (rF : rmL (fga (nY A).1 12 12) W) (hff : ff + 40000 < 2 ^ 62) (hW : W ≤ 400000) {Q3 : Nat → Value → re_H → Prop} (K3 : ∀ h1, NB h1 b (nP A, nV A, nM A, nIp A, nS A, nO A, nB A, (fga (nY A).1 12 12, (nY A).2)) N ff W → wp SC 513 (d + 34) q 0 [(0, .ref (b + 299)), (1, .int (i32 4095))] [] h1 Q3 → Q 0 .null h1) (K : ∀ h' N' x, NB h' b (aA A) N' (ff + 36000) W → ofr b 0 h N h' N' → Q3 1 (.int x) h') : wp SC 523 (d + 2) q 0 [(0, .ref (b + 299))] [] h Q := by
  obtain ⟨E, F, ho, la, f0, y1, y2⟩ := id z.2.2.2.1
  refine c523 (rid := 0) (Or.inr ⟨rfl, rfl⟩) y1 (fun h1 z1 br => ?_)
  have fK : ∀ i n v, (n, v) ∈ rK (fga (nY A).1 12 12 i) → (n, v) ∈ rK ((nY A).1 i) := fun i n v hm => by
    rcases fga_K (RR := (nY A).1) (st0 := 12) 12 i with g | g
    · rw [g] at hm; cases hm
    · rw [g] at hm; exact hm
  have mF : mwf (nV A) (fga (nY A).1 12 12) := ⟨(NB_m z).1, fun i n v hm => (NB_m z).2 i n v (fK i n v hm)⟩
  have nz : NB h1 b (nP A, nV A, nM A, nIp A, nS A, nO A, nB A, (fga (nY A).1 12 12, (nY A).2)) N ff W := NB_run z ⟨E, F, ho, la, f0, z1, y2⟩ mF z.2.2.2.2.2.2.2.2.2.1 (bru_brn br)
  refine K3 h1 nz (c513 (st0 := 12) (by omega) (Or.inr ⟨rfl, rfl⟩) nz.2.2.2.1 mF z.2.2.2.2.2.2.2.2.2.1 rF hff hW (fun h' N' x1 x2 x3 u _ => by
    have nn := NB_run nz x1 x2 x3 u
    exact K h' N' _ nn (ofr_tr (ofr_bru (bru_brn br)) (ofr_bru u) (Nat.le_refl _))))
theorem NB_sa (z : NB h b A N ff W) : shc h (b + 299) (b + 2) (b + 41) (b + 292) (b + 50) 12 := (nbx_bf z.2.2.2.1).1.2.2.2.2.2
theorem NB_ra {c : Nat} (hc : c < 12) (z : NB h b A N ff W) : ∃ E, rs h E (b + 50 + 1 + 10 * (12 + c)) ((nY A).1 (12 + c)) ∧ rall h E (b + 50) (nY A).1 := by
  obtain ⟨E, F, ho, la, f0, y1, y2⟩ := id z.2.2.2.1
  exact ⟨E, y1.2.1.2 _ (by omega), y1.2.1⟩
theorem c36 {c : Nat} (hc : c < 12) (ht : ((nV A) c).1 = true) (z : NB h b A N ff W) (hL : rmL (fga (nY A).1 12 12) W) (hff : ff + 40000 < 2 ^ 62) (hW : W ≤ 400000) (K : ∀ h' N', NB h' b (aA A) N' (ff + 36000) W → ofr b 0 h N h' N' → Q 1 (.int ((nY (aA A)).1 (12 + c)).1) h') : wp SC 36 (d + 35) q 0 [(0, .ref b), (1, .int (i32 c))] [] h Q := by
  refine B36_0 z.1 rfl (s1 := 0) (s2 := q) (by omega) (c19 hc ht z.1 (NB_vr z) (ret0 (B36_5 ⟨_, z.1, rfl⟩ (NB_sa z) rfl (wp_up (d := d + 2) (by omega) (Nat.le_refl _) (anw (y := 0) z hL hff hW (fun h1 z1 y => ret0 (B36_12 ⟨_, z1.1, rfl⟩ (NB_sa z1) rfl y)) (fun h' N' x z4 o4 => ret1 ?_))))))
  obtain ⟨E, zr, za⟩ := NB_ra hc z4
  exact B36_22 ⟨_, z4.1, rfl⟩ (NB_sa z4) rfl (c515 (NB_sa z4) za (by omega) (ret3 (B36_31 ⟨_, rs_0 zr, rfl⟩ (K h' N' z4 o4))))
noncomputable def vaN (A : Nb) (c nm : Nat) : Int64 := match lkp nm (rK ((nY (aA A)).1 (12 + c))) with
  | some v => if isC v = true then -1 else num v
  | none => -1
theorem c35 {c nm : Nat} (hc : c < 12) (hn : nm < 16) (ht : ((nV A) c).1 = true) (z : NB h b A N ff W) (hL : rmL (fga (nY A).1 12 12) W) (hff : ff + 40000 < 2 ^ 62) (hW : W ≤ 400000) (K : ∀ h' N', NB h' b (aA A) N' (ff + 36000) W → ofr b 0 h N h' N' → Q 2 (.long (vaN A c nm)) h') : wp SC 35 (d + 35) q 0 [(0, .ref b), (1, .int (i32 c)), (2, .int (i32 nm))] [] h Q := by
  refine B35_0 z.1 rfl (s1 := 0) (s2 := q) (by omega) (c19 hc ht z.1 (NB_vr z) (ret0 (B35_5 z.1 rfl (s1 := 0) (s2 := q) (by omega) (c5 hn (ret0 (B35_10 ⟨_, z.1, rfl⟩ (NB_sa z) rfl (wp_up (d := d + 2) (by omega) (Nat.le_refl _) (anw (y := 0) z hL hff hW (fun h1 z1 y => ret0 (B35_17 ⟨_, z1.1, rfl⟩ (NB_sa z1) rfl y)) (fun h' N' x z4 o4 => ret1 ?_)))))))))
  obtain ⟨E, zr, za⟩ := NB_ra hc z4
  have K := K h' N' z4 o4
  have hk := knd_le (lkp nm (rK ((nY (aA A)).1 (12 + c))))
  refine B35_27 ⟨_, z4.1, rfl⟩ (NB_sa z4) rfl (c515 (NB_sa z4) za (by omega) (ret3 (B35_36 (rs_0 zr) rfl (wp_up (d := 1) (by omega) (Nat.le_refl _) (c322 (d := 0) hn zr (ret1 (B35_42 (fun g => B35_54 (B35_57 ?_)) (fun g => ?_))))))))
  · have e9 : vaN A c nm = -1 := by
      unfold vaN
      split
      next v hv =>
        split
        · rfl
        next hc' => exact absurd (by rw [hv, knd_s, if_neg hc']) g
      · rfl
    rw [e9] at K
    exact K
  · obtain ⟨v, hv, hc'⟩ := knd_1 ((i3_eq (by omega) (by omega)).mp g)
    refine B35_46 (rs_0 zr) rfl (wp_up (d := 1) (by omega) (Nat.le_refl _) (c324 (d := 0) hn zr (ret2 (B35_51 (B35_57 ?_)))))
    rw [hv, mrk_s, if_neg hc']
    have e9 : vaN A c nm = num v := by
      unfold vaN
      rw [hv]
      exact if_neg hc'
    rw [e9] at K
    exact K
end P4
