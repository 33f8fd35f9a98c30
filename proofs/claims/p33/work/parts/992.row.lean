/-! The law's row, the pile's weight. -/
theorem NB_w {h : re_H} {b : Nat} {A : Nb} {N : List Nat} {ff W : Nat} {w0 w1 : List Value} (z : NB h b A N ff W) (hb : ¬ (b ≤ 602 ∧ 602 ≤ b + 300)) (h6 : re_hg h 602 = some (100, w0)) : NB (re_hw h 602 (100, w1)) b A N ff W := by
  obtain ⟨z1, z2, z3, z4, z5, z6, z7, z8⟩ := z
  have ne : ∀ a, ¬ a = 602 → re_hg (re_hw h 602 (100, w1)) a = re_hg h a := fun a h => hw_n h
  have kx : xk h (re_hw h 602 (100, w1)) := xk_hw h6 (by decide)
  have e : ∀ a, b ≤ a → a ≤ b + 300 → re_hg (re_hw h 602 (100, w1)) a = re_hg h a := fun a h1 h2 => ne a (by omega)
  exact ⟨(e _ (by omega) (by omega)).trans z1, pil_fr (e _ (by omega) (by omega)) kx z2, brh_fr (e _ (by omega) (by omega)) (fun a t w h1 h2 h3 => ne a (by omega)) kx z3, nbx_fr z4 e (fun x hx => ne x (by have := z5 x hx; omega)) kx (Nat.le_refl _), z5, z6, z7, z8⟩
theorem JH_w {h : re_H} {A A' : Nb} {N N' : List Nat} {ff zz : Nat} {ds ds1 : List Value} (z : JH h A A' N N' ff zz ds) : JH (re_hw h 602 (100, ds1)) A A' N N' ff zz ds1 := by
  obtain ⟨z1, z2, z3, z4, z5⟩ := z
  exact ⟨NB_w z1 (by omega) z4, NB_w z2 (by omega) z4, z3, hw_s (hg_lt z4), z5⟩
theorem JH_up {h : re_H} {A A' : Nb} {N N' : List Nat} {ff ff' zz zz' : Nat} {ds : List Value} (z : JH h A A' N N' ff zz ds) (hf : ff ≤ ff') (hz : zz ≤ zz') : JH h A A' N N' ff' zz' ds := by
  obtain ⟨z1, z2, z3, z4, z5⟩ := z
  exact ⟨NB_up z1 hf, NB_up z2 hf, z3, z4, by omega⟩
def ds9 (A : Nb) (bh : Nat) : List Value := [.int (i32 (nP A).length), .int (i32 (nM A)), .int (i32 (nO A)), .int (i32 (nB A).length), .int (i32 bh)]
theorem row_ar {h : re_H} {ds : List Value} {i : Nat} {v : Value} (e : re_hg h 602 = some (100, ds)) (hi : i < 5) (hv : ds[i]? = some v) : nb_ar h 602 100 (i32 i) v := ⟨ds, i, e, rfl, by omega, hv⟩
def wsm (w : Nat → Nat) : Nat → Nat
  | 0 => 0
  | k + 1 => wsm w k + w k
theorem wsm_le {w w' : Nat → Nat} : ∀ k, (∀ i, i < k → w i ≤ w' i) → wsm w k ≤ wsm w' k
  | 0, _ => Nat.le_refl _
  | k + 1, h => by
    have := wsm_le k (fun i hi => h i (by omega))
    have := h k (by omega)
    show wsm w k + w k ≤ wsm w' k + w' k
    omega
theorem wsm_up {w : Nat → Nat} {c d : Nat} : ∀ k, wsm (fun i => if i = c then w i + d else w i) k = wsm w k + (if c < k then d else 0)
  | 0 => by simp [wsm]
  | k + 1 => by
    have ih := wsm_up (w := w) (c := c) (d := d) k
    show wsm (fun i => if i = c then w i + d else w i) k + (if k = c then w k + d else w k) = wsm w k + w k + _
    rw [ih]
    by_cases h1 : c < k
    · rw [if_pos h1, if_neg (show ¬ k = c by omega), if_pos (show c < k + 1 by omega)]; omega
    · by_cases h2 : k = c
      · rw [if_neg h1, if_pos h2, if_pos (show c < k + 1 by omega)]; omega
      · rw [if_neg h1, if_neg h2, if_neg (show ¬ c < k + 1 by omega)]; omega
theorem vps_w {V : Vr} {w : Nat → Nat} : ∀ k, (∀ i, i < k → cps (V i).2 ≤ w i) → vps V k ≤ wsm w k
  | 0, _ => Nat.le_refl _
  | k + 1, h => by
    have := vps_w k (fun i hi => h i (by omega))
    have := h k (by omega)
    show vps V k + cps (V k).2 ≤ wsm w k + w k
    omega
/-- all that was pushed: n parts at the most, in the pile and for each cell in any code of it that is kept somewhere -/
def WT (A : Nb) (n : Nat) : Prop := ∃ w : Nat → Nat, wsm w 12 + psum (nP A) ≤ n ∧ (∀ c, c < 12 → cps ((nV A) c).2 ≤ w c) ∧ ∀ U, U ∈ nB A → ∀ c, c < 12 → cps (U c).2 ≤ w c
theorem WT_v {A : Nb} {n : Nat} (h : WT A n) : vps (nV A) 12 ≤ n := by
  obtain ⟨w, h1, h2, -⟩ := h
  have := vps_w 12 h2
  omega
theorem WT_P {A : Nb} {n : Nat} {P : List Tr} (h : WT A n) (hP : psum P ≤ psum (nP A) + 1) : WT (P, A.2) (n + 1) := by
  obtain ⟨w, h1, h2, h3⟩ := h
  exact ⟨w, by show wsm w 12 + psum P ≤ n + 1; omega, h2, h3⟩
theorem WT_V {A A1 : Nb} {n : Nat} (h : WT A n) (hP : nP A1 = nP A) (hV : ∀ c, c < 12 → cps ((nV A1) c).2 ≤ cps ((nV A) c).2 ∨ ∃ U, U ∈ nB A ∧ ((nV A1) c).2 = (U c).2) (hB : ∀ U, U ∈ nB A1 → U ∈ nB A ∨ ∀ c, c < 12 → (U c).2 = ((nV A) c).2) : WT A1 n := by
  obtain ⟨w, h1, h2, h3⟩ := h
  refine ⟨w, by rw [hP]; exact h1, fun c hc => ?_, fun U hU c hc => ?_⟩
  · rcases hV c hc with y | ⟨U, y1, y2⟩
    · exact Nat.le_trans y (h2 c hc)
    · rw [y2]; exact h3 U y1 c hc
  · rcases hB U hU with y | y
    · exact h3 U y c hc
    · rw [y c hc]; exact h2 c hc
theorem WT_up {A : Nb} {n n' : Nat} (h : WT A n) (hn : n ≤ n') : WT A n' := by
  obtain ⟨w, h1, h2⟩ := h
  exact ⟨w, by omega, h2⟩
def LJ (A A' : Nb) (bh n t : Nat) : Prop := sim A A' ∧ okp A bh n t 12 ∧ okp A' bh n t 0 ∧ bh ≤ 1 ∧ WT A n
def EN (n t ff zz kb : Nat) (h' : re_H) (A1 A1' : Nb) (N1 N1' : List Nat) (ff1 zz1 bh1 : Nat) : Prop := LJ A1 A1' bh1 (n + 1) (t + 50) ∧ JH h' A1 A1' N1 N1' ff1 zz1 (ds9 A1 bh1) ∧ ff1 ≤ ff + 800000 ∧ zz1 + 78 * kb ≤ zz + 2 * (n + 1) + 78 * (nB A1).length
def gd9 (P : List Tr) : Prop := ∀ e, e ∈ P → cdk e ∧ fre e < 64
theorem gd_lf : cdk (.leaf : Tr) ∧ fre (.leaf : Tr) < 64 := ⟨⟨rfl, by decide⟩, by decide⟩
theorem gd_E {s w : Nat} {n : Int64} {a b c : Tr} (hs : s < 9) (hw : w < 16) (h1 : s = 1 → w < 6) (h2 : s = 2 → w < 4) (ha : cdk a ∧ fre a < 64) (hb : cdk b ∧ fre b < 64) (hc : cdk c ∧ fre c < 64) : cdk (tE s w n a b c) ∧ fre (tE s w n a b c) < 64 :=
  ⟨⟨wE_E.mpr ⟨⟨hs, hw⟩, ha.1.1, hb.1.1, hc.1.1⟩, inps_16 h2 ha.1.2 hb.1.2 hc.1.2⟩, fre_64 h1 ha.2 hb.2 hc.2⟩
theorem dl9 {P : List Tr} (h : 1 ≤ P.length) : psum P = psum P.dropLast + pts (tp P) ∧ (∀ e, e ∈ P.dropLast → e ∈ P) ∧ tp P ∈ P ∧ P.dropLast.length + 1 = P.length := by
  obtain ⟨P0, e, rfl⟩ := last1 h
  rw [tp_app, dl_app, psum_app]
  exact ⟨by simp [psum], fun x hx => List.mem_append_left _ hx, by simp, by simp⟩
theorem gd_app {P : List Tr} {e : Tr} (h : gd9 P) (he : cdk e ∧ fre e < 64) : gd9 (P ++ [e]) := fun x hx => by
  rcases List.mem_append.mp hx with y | y
  · exact h x y
  · rw [List.mem_singleton.mp y]; exact he
theorem LJ_P {A A' : Nb} {bh n t : Nat} {P : List Tr} (j : LJ A A' bh n t) (hP : gd9 P) (hp : psum P ≤ psum (nP A) + 1) : LJ (P, A.2) (P, A'.2) bh (n + 1) (t + 50) := by
  obtain ⟨⟨s1, s2⟩, ⟨a1, a2, a3, a4, a5⟩, ⟨b1, b2, b3, b4, b5⟩, j4, j5⟩ := j
  exact ⟨⟨rfl, s2⟩, ⟨inv_pile a1 hP, pot_up (A := A) a2 (by omega), a3, by show (nY A).2.2 ≤ t + 50; omega, a5⟩, ⟨inv_pile b1 hP, pot_up (A := A') b2 (by omega), b3, by show (nY A').2.2 ≤ t + 50; omega, b5⟩, j4, WT_P j5 hp⟩
theorem LJ_up {A A' : Nb} {bh n t : Nat} (j : LJ A A' bh n t) : LJ A A' bh (n + 1) (t + 50) := by
  obtain ⟨s, ⟨a1, a2, a3, a4, a5⟩, ⟨b1, b2, b3, b4, b5⟩, j4, j5⟩ := j
  exact ⟨s, ⟨a1, pot_up a2 (by omega), a3, by omega, a5⟩, ⟨b1, pot_up b2 (by omega), b3, by omega, b5⟩, j4, WT_up j5 (by omega)⟩
theorem LJ_gd {A A' : Nb} {bh n t : Nat} (j : LJ A A' bh n t) : gd9 (nP A) := by
  obtain ⟨-, -, y, -⟩ := j.2.1.1.1
  exact y
