/-! The law's rounds. -/
def tri : Nat → Nat
  | 0 => 0
  | k + 1 => tri k + 2 * (k + 1)
def spr : Nat → Nat
  | 0 => 252
  | j + 1 => spr j + 8 + (if (79 - j) % 6 = 0 then 252 else 0) + (if (79 - j) % 30 = 0 then 193 else 0)
theorem sA_pot {A A1 : Nb} {n : Nat} (h : pot A n) (s : sA A A1) : pot A1 n := by
  obtain ⟨p, L, m, p1, p2, p3, p4, p5, p6⟩ := h
  have e8 := sA_st s
  obtain ⟨-, -, e3, -, -, e6, -, e9, -⟩ := s
  have hu : ue A1 = ue A := by unfold ue; rw [e8, e6, e3]
  exact ⟨p, L, m, p1, p2, fun c hc n v hv => p3 c hc n v (by rw [← e9 (0 + c) (by omega)]; exact hv), by rw [hu, e3]; exact p4, by rw [e3]; exact p5, by rw [e6]; exact p6⟩
theorem sA_LJ {A A' A1 : Nb} {bh n t : Nat} (j : LJ A A' bh n t) (s : sA A A1) (i : inv A1 bh) (hT : (nY A1).2.2 ≤ (nY A).2.2 + 1008) (ha : ano A 12 → ano A1 12) : LJ A1 A' bh n (t + 1008) := by
  obtain ⟨j1, ⟨a1, a2, a3, a4, a5⟩, j3, j4, j5⟩ := j
  refine LJ_mk (sA_sim j1 s (sA_rf A')) ⟨i, sA_pot a2 s, ha a3, by omega, by rw [s.2.2.1]; exact a5⟩ (okp_t j3 (by omega)) j4 ?_
  obtain ⟨w, w1, w2, w3⟩ := j5
  obtain ⟨e1, e2, -, -, -, -, e7, -⟩ := s
  exact ⟨w, by rw [e1]; exact w1, by rw [e2]; exact w2, by rw [e7]; exact w3⟩
theorem sA_ds {A A1 : Nb} {bh : Nat} (s : sA A A1) : ds9 A1 bh = ds9 A bh := by
  obtain ⟨e1, -, e3, -, -, e6, e7, -⟩ := s
  unfold ds9
  rw [e1, e3, e6, e7]
theorem LJ_t {A A' : Nb} {bh n t t' : Nat} (j : LJ A A' bh n t) (h : t ≤ t') : LJ A A' bh n t' := ⟨j.1, okp_t j.2.1 h, okp_t j.2.2.1 h, j.2.2.2⟩
section RD
variable {SC : List Value} {h : re_H} {Q : Nat → Value → re_H → Prop}
/-- both tell all, and the first is sound -/
theorem x588a {pc1 pc2 pc3 pc4 pc5 : Nat} {lv1 lv2 lv3 : List (Nat × Value)} {s n t bh ff zz : Nat} {A A' : Nb} {N N' : List Nat}
    (b1 : ∀ (h : re_H) (x : Int32) (s1 s2 s : Nat), nb_ar h 602 100 (i32 1) (.int x) → s1 + s2 ≤ s → wp SC 578 39 s1 0 [(0, .ref 0), (1, .int x)] [] h (wp_ret SC 588 40 s2 pc2 lv1 [] Q) → wp SC 588 40 s pc1 lv1 [] h Q)
    (b2 : ∀ (h : re_H) (x : Int32) (l : Int64) (s1 s2 s : Nat), nb_ar h 602 100 (i32 1) (.int x) → s1 + s2 ≤ s → wp SC 578 39 s1 0 [(0, .ref 301), (1, .int x)] [] h (wp_ret SC 588 40 s2 pc3 lv2 [.long l] Q) → wp SC 588 40 s pc2 lv1 [.long l] h Q)
    (b3 : ∀ (h : re_H) (l : Int64) (s : Nat), wp SC 588 40 s pc4 lv2 [] h Q → wp SC 588 40 s pc3 lv2 [.long l, .long l] h Q)
    (b4 : ∀ (h : re_H) (x y w : Int32) (s1 s2 s : Nat), nb_ar h 602 100 (i32 1) (.int x) → nb_ar h 602 100 (i32 2) (.int y) → nb_ar h 602 100 (i32 4) (.int w) → s1 + s2 ≤ s → wp SC 582 39 s1 0 [(0, .ref 0), (1, .int x), (2, .int y), (3, .int w)] [] h (wp_ret SC 588 40 s2 pc5 lv3 [] Q) → wp SC 588 40 s pc4 lv2 [] h Q)
    (hn : n ≤ 80) (j : LJ A A' bh n t) (z : JH h A A' N N' ff zz (ds9 A bh)) (hf : ff + 100000000 < 2 ^ 62)
    (K : ∀ h' A1 N1 N1' ff1, ff1 ≤ ff + 20000000 → LJ A1 A' bh n (t + 1008) → nB A1 = nB A → JH h' A1 A' N1 N1' ff1 zz (ds9 A1 bh) → wp SC 588 40 s pc5 lv3 [.int 1] h' Q) : wp SC 588 40 (s + 252) pc1 lv1 [] h Q := by
  have hm := (NB_md z.1).1
  have hs := j.1
  have e3 : nM A = nM A' := hs.2.2.1
  refine b1 h (i32 (nM A)) (0 + 7 * nM A) (s + 168) _ (row_ar (i := 1) z.2.2.2.1 (by omega) rfl) (by omega) (wp_up (d := 38) (by omega) (Nat.le_refl _) (c578 (q := 0) j.2.1.1.1 hm z.1 (by omega) (fun h1 N1 n1 o1 => ret2 ?_)))
  obtain ⟨f1, hf1⟩ : ∃ f, f = ff + 3100000 := ⟨_, rfl⟩
  rw [← hf1] at n1
  have z1 := JH_o (by omega) z n1 o1
  refine b2 h1 (i32 (nM A)) _ (0 + 7 * nM A) (s + 84) _ (row_ar (i := 1) z1.2.2.2.1 (by omega) rfl) (by omega) (wp_up (d := 38) (by omega) (Nat.le_refl _) (c578 (q := 0) (bh := bh) j.2.2.1.1.1 hm z1.2.1 (by omega) (fun h2 N2 n2 o2 => ret2 ?_)))
  obtain ⟨f2, hf2⟩ : ∃ f, f = f1 + 3100000 := ⟨_, rfl⟩
  rw [← hf2] at n2
  have z2 := JH_t (by omega) z1 n2 o2
  rw [← sim_all hs (nM A) hm]
  refine b3 h2 _ _ ?_
  refine b4 h2 (i32 (nM A)) (i32 (nO A)) (i32 bh) (0 + 7 * nM A) s _ (row_ar (i := 1) z2.2.2.2.1 (by omega) rfl) (row_ar (i := 2) z2.2.2.2.1 (by omega) rfl) (row_ar (i := 4) z2.2.2.2.1 (by omega) rfl) (by omega) ?_
  refine c582 (s := 0) j.2.1.1 j.2.2.2.1 (okp_rm j.2.1 hn (by decide)) (by decide) z2.1 (by omega) (fun h3 N3 A3 f3 g => ret1 ?_)
  obtain ⟨g1, g2, g3, g4, g5, g6, g7⟩ := g
  obtain ⟨f4, hf4⟩ : ∃ f, f = f2 + 36000 * 168 := ⟨_, rfl⟩
  have z3 := JH_o (ff' := f4) (by omega) z2 (NB_up g2 (by omega)) g3
  rw [← sA_ds g4] at z3
  exact K h3 A3 N3 N2 f4 (by omega) (sA_LJ j g4 g5 (by omega) g7) g4.2.2.2.2.2.2.1 (JH_up z3 (Nat.le_refl _) (by omega))
theorem x588l (hl : SC.length < 2147483648) (hS : ∀ i, i < SC.length → ∃ v : Int32, SC[i]? = some (.int v)) {z0 f0 t0 : Nat} (hf0 : f0 ≤ 1000000000) (ht0 : t0 ≤ 1000) (K : ∀ h' A A' N N' ff zz ds, JH h' A A' N N' ff zz ds → zz ≤ z0 + tri 80 + 78 * 4 → Q 1 (.int 1) h') : ∀ (j k : Nat) (h : re_H) (A A' : Nb) (bh : Nat) (N N' : List Nat) (ff zz : Nat), k + j = 80 → LJ A A' bh k (t0 + 1100 * k) → JH h A A' N N' ff zz (ds9 A bh) → ff ≤ f0 + 40000000 * k → zz ≤ z0 + tri k + 78 * (nB A).length → wp SC 588 40 (spr j) 80 [(0, .retAddr 2), (1, .ref 0), (2, .ref 301), (3, .ref 602), (4, .int (i32 1)), (5, .int (i32 k))] [] h Q := by
  intro j
  induction j with
  | zero =>
    intro k h A A' bh N N' ff zz hk jj z hf hz
    cases (show k = 80 by omega)
    refine M588_80 (fun _ => B588_259 (fun g => absurd g (by decide)) (fun _ => ?_)) (fun g => absurd ((i3_lt (by omega) (by omega)).mp g) (by omega))
    refine x588a (s := 0) (pc1 := 264) (pc2 := 271) (pc3 := 278) (pc4 := 282) (pc5 := 295) (fun h x s1 s2 s e hs y => L588_264 e hs y) (fun h x l s1 s2 s e hs y => L588_271 e hs y) (fun h l s y => B588_278 (fun g => absurd rfl g) (fun _ => y)) (fun h x y w s1 s2 s e1 e2 e3 hs k => L588_282 e1 e2 e3 hs k) (by omega) jj z (by omega) (fun h1 A1 N1 N1' ff1 g1 j1 eB z1 => ?_)
    have hbl := NB_bl z.1
    exact B588_295 (fun g => absurd g (by decide)) (fun _ => B588_298 (B588_303 (Or.inr rfl) (K _ _ _ _ _ _ _ _ z1 (by omega))))
  | succ j ih =>
    intro k h A A' bh N N' ff zz hk jj z hf hz
    have hn : k ≤ 79 := by omega
    refine M588_80 (fun g => absurd ((i3_lt (by omega) (by omega)).mpr (by omega)) g) (fun _ => M588_87 (fun g => absurd g (by decide)) (fun _ => ?_))
    refine M588_92 ?_
    rw [i3_mul]
    refine c576 (by omega) hl hS (fun x => ret1 (M588_100 ?_))
    rw [i3_mul, i3_add]
    obtain ⟨p6, h6⟩ : ∃ p, p = if (79 - j) % 6 = 0 then 252 else 0 := ⟨_, rfl⟩
    obtain ⟨p30, h30⟩ : ∃ p, p = if (79 - j) % 30 = 0 then 193 else 0 := ⟨_, rfl⟩
    have hsp : spr (j + 1) = spr j + 8 + p6 + p30 := by rw [h6, h30]; rfl
    rw [hsp]
    have ek : 79 - j = k := by omega
    rw [ek] at h6 h30
    -- behind the round's call
    have go : ∀ h' A1 A1' N1 N1' ff1 zz1 bh1, EN k (t0 + 1100 * k) ff zz (nB A).length h' A1 A1' N1 N1' ff1 zz1 bh1 → wp SC 588 40 (spr j + p6 + p30) 181 [(0, .retAddr 2), (1, .ref 0), (2, .ref 301), (3, .ref 602), (4, .int 1), (5, .int (i32 k))] [] h' Q := by
      intro h1 A1 A1' N1 N1' ff1 zz1 bh1 ⟨e1, e2, e3, e4⟩
      have at246 : ∀ h2 A2 N2 N2' ff2 s, spr j ≤ s → ff2 ≤ ff + 39000000 → LJ A2 A1' bh1 (k + 1) (t0 + 1100 * k + 1058) → nB A2 = nB A1 → JH h2 A2 A1' N2 N2' ff2 zz1 (ds9 A2 bh1) → wp SC 588 40 s 246 [(0, .retAddr 2), (1, .ref 0), (2, .ref 301), (3, .ref 602), (5, .int (i32 k))] [] h2 Q := fun h2 A2 N2 N2' ff2 s hs hff j2 eB z2 => by
        refine M588_246 (M588_251 ?_)
        rw [i3_add]
        have hF : ff2 ≤ f0 + 40000000 * (k + 1) := by
          have e9 : ∀ M : Nat, M * (k + 1) = M * k + M := fun M => Nat.mul_succ M k
          rw [e9]
          exact Nat.le_trans hff (Nat.le_trans (Nat.add_le_add_right hf 39000000) (by rw [Nat.add_assoc]; exact Nat.add_le_add_left (Nat.add_le_add_left (by decide) _) _))
        have hZ : zz1 ≤ z0 + tri (k + 1) + 78 * (nB A2).length := by
          rw [eB]
          have e0 : tri (k + 1) = tri k + 2 * (k + 1) := rfl
          rw [e0]
          omega
        have hJ : LJ A2 A1' bh1 (k + 1) (t0 + 1100 * (k + 1)) := LJ_t j2 (by omega)
        exact wp_up (Nat.le_refl _) hs (ih (k + 1) h2 A2 A1' bh1 N2 N2' ff2 zz1 (by omega) hJ z2 hF hZ)
      have at228 : ∀ h2 A2 N2 N2' ff2 s, spr j + p30 ≤ s → ff2 ≤ ff + 25000000 → LJ A2 A1' bh1 (k + 1) (t0 + 1100 * k + 1058) → nB A2 = nB A1 → JH h2 A2 A1' N2 N2' ff2 zz1 (ds9 A2 bh1) → wp SC 588 40 s 228 [(0, .retAddr 2), (1, .ref 0), (2, .ref 301), (3, .ref 602), (5, .int (i32 k))] [] h2 Q := fun h2 A2 N2 N2' ff2 s hs hff j2 eB z2 => by
        refine M588_228 (fun _ => at246 h2 A2 N2 N2' ff2 s (by omega) (by omega) j2 eB z2) (fun g => ?_)
        rw [i3_mod (by omega) (by omega)] at g
        have g0 : k % 30 = 0 := by
          rcases Nat.eq_zero_or_pos (k % 30) with y | y
          · exact y
          · exact absurd ((i3_pos (by omega)).mpr y) g
        rw [if_pos g0] at h30
        have hm := (NB_md z2.1).1
        refine K588_236 (row_ar (i := 1) z2.2.2.2.1 (by omega) rfl) (s1 := 0 + 25 + 14 * nM A2) (s2 := spr j) (by omega) (c587 (q := 0) j2.2.1.1.1 hm z2.1 (by omega) (fun h3 N3 f3 hf3 n3 o3 => ret1 (M588_243 (fun g => absurd g (by decide)) (fun _ => ?_))))
        obtain ⟨f4, hf4⟩ : ∃ f, f = ff2 + 7200000 := ⟨_, rfl⟩
        exact at246 h3 A2 N3 N2' f4 _ (Nat.le_refl _) (by omega) j2 eB (JH_o (ff' := f4) (by omega) z2 (NB_up n3 (by omega)) o3)
      refine M588_181 (fun g => absurd g (by decide)) (fun _ => M588_186 (fun _ => ?_) (fun g => ?_))
      · exact at228 h1 A1 N1 N1' ff1 _ (by omega) (by omega) (LJ_t e1 (by omega)) rfl e2
      · rw [i3_mod (by omega) (by omega)] at g
        have g0 : k % 6 = 0 := by
          rcases Nat.eq_zero_or_pos (k % 6) with y | y
          · exact y
          · exact absurd ((i3_pos (by omega)).mpr y) g
        rw [if_pos g0] at h6
        rw [h6, show spr j + 252 + p30 = spr j + p30 + 252 by omega]
        refine x588a (s := spr j + p30) (pc1 := 194) (pc2 := 201) (pc3 := 208) (pc4 := 212) (pc5 := 225) (fun h x s1 s2 s e hs y => K588_194 e hs y) (fun h x l s1 s2 s e hs y => K588_201 e hs y) (fun h l s y => M588_208 (fun g => absurd rfl g) (fun _ => y)) (fun h x y w s1 s2 s e1 e2 e3 hs k => K588_212 e1 e2 e3 hs k) (by omega) e1 e2 (by omega) (fun h2 A2 N2 N2' ff2 g1 j2 eB z2 => ?_)
        exact M588_225 (fun g => absurd g (by decide)) (fun _ => at228 h2 A2 N2 N2' ff2 _ (by omega) (by omega) j2 eB z2)
    refine c576 (by omega) hl hS (fun x2 => ret1 (M588_112 (c577 (by omega) (by omega) (fun m hm => ret1 (M588_121 (fun _ => M588_143 (fun _ => ?_) (fun _ => ?_)) (fun _ => ?_))))))
    · exact K588_167 (s1 := 0 + 8) (s2 := spr j + p6 + p30) (by omega) (c586 jj hn (by omega) z (by omega) (fun h' A1 A1' N1 N1' ff1 zz1 bh1 e => ret1 (M588_179 (go h' A1 A1' N1 N1' ff1 zz1 bh1 e))))
    · exact K588_150 (s1 := 0 + 8) (s2 := spr j + p6 + p30) (by omega) (c585 jj hn z (by omega) (fun h' A1 A1' N1 N1' ff1 zz1 bh1 e => ret1 (M588_162 (go h' A1 A1' N1 N1' ff1 zz1 bh1 e))))
    · exact K588_130 (s1 := 0 + 8) (s2 := spr j + p6 + p30) (by omega) (c584 jj z (by omega) (fun h' A1 A1' N1 N1' ff1 zz1 bh1 e => ret1 (M588_138 (go h' A1 A1' N1 N1' ff1 zz1 bh1 e))))
end RD
