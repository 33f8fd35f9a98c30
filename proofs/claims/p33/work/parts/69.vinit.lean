/-! Version: the constructor. -/
section VI
variable {SC : List Value} {d q : Nat} {h : re_H} {Q : Nat → Value → re_H → Prop} {v : Nat}
theorem c64 {w : List Value} (e : re_hg h v = some (1, w)) (hw : w.length = 2) (hp : h.1 = v + 1) (K : ∀ h', vr h' v (fun _ => (false, [])) → mo (fun a => a = v) 38 h h' → h'.1 = h.1 + 38 → Q 0 .null h') : wp SC 64 (d + 1) (q + 2) 0 [(0, .ref v)] [] h Q := by
  obtain ⟨hA, eA⟩ : ∃ hA, hA = re_hq h (102, List.replicate 12 (.int 0)) := ⟨_, rfl⟩
  have A1 : hA.1 = v + 2 := by rw [eA, hq_1, hp]
  have Av : re_hg hA v = some (1, w) := by rw [eA]; exact hq_k e
  have Aa : re_hg hA (v + 1) = some (102, List.replicate 12 (.int 0)) := by rw [eA, ← hp]; exact hq_s
  have Am : mo (fun a => a = v) 1 h hA := by rw [eA]; exact ⟨kp_hq, xk_hq, Nat.le_refl _⟩
  obtain ⟨hB, eB⟩ : ∃ hB, hB = re_hw hA v (1, w.set 0 (.ref (v + 1))) := ⟨_, rfl⟩
  have B1 : hB.1 = v + 2 := by rw [eB, hw_1, A1]
  have Bv : re_hg hB v = some (1, w.set 0 (.ref (v + 1))) := by rw [eB]; exact hw_s (by omega)
  have Ba : re_hg hB (v + 1) = some (102, List.replicate 12 (.int 0)) := by rw [eB, hw_n (by omega)]; exact Aa
  have Bm : mo (fun a => a = v) 1 h hB := mo_tr Am (m := 0) (by rw [eB]; exact mo_hw Av (by omega) rfl) (Nat.le_refl _)
  obtain ⟨hC, eC⟩ : ∃ hC, hC = re_hq hB (104, List.replicate 12 .null) := ⟨_, rfl⟩
  have C1 : hC.1 = v + 3 := by rw [eC, hq_1, B1]
  have Cv : re_hg hC v = some (1, w.set 0 (.ref (v + 1))) := by rw [eC]; exact hq_k Bv
  have Ca : re_hg hC (v + 1) = some (102, List.replicate 12 (.int 0)) := by rw [eC]; exact hq_k Ba
  have Cc : re_hg hC (v + 2) = some (104, List.replicate 12 .null) := by rw [eC, ← B1]; exact hq_s
  have Cm : mo (fun a => a = v) 2 h hC := mo_tr Bm (m := 1) (by rw [eC]; exact ⟨kp_hq, xk_hq, Nat.le_refl _⟩) (Nat.le_refl _)
  obtain ⟨hD, eD⟩ : ∃ hD, hD = re_hw hC v (1, (w.set 0 (.ref (v + 1))).set 1 (.ref (v + 2))) := ⟨_, rfl⟩
  have D1 : hD.1 = v + 3 := by rw [eD, hw_1, C1]
  have hw2 : (w.set 0 (.ref (v + 1))).set 1 (.ref (v + 2)) = [.ref (v + 1), .ref (v + 2)] := by
    match w, hw with
    | [a, b], _ => rfl
  have Dv : re_hg hD v = some (1, [.ref (v + 1), .ref (v + 2)]) := by rw [eD, ← hw2]; exact hw_s (by omega)
  have Da : re_hg hD (v + 1) = some (102, List.replicate 12 (.int 0)) := by rw [eD, hw_n (by omega)]; exact Ca
  have Dc : re_hg hD (v + 2) = some (104, List.replicate 12 .null) := by rw [eD, hw_n (by omega)]; exact Cc
  have Dm : mo (fun a => a = v) 2 h hD := mo_tr Cm (m := 0) (by rw [eD]; exact mo_hw Cv (by omega) rfl) (Nat.le_refl _)
  have loop : ∀ (k n : Nat), n + k = 12 → ∀ h1, re_hg h1 v = some (1, [.ref (v + 1), .ref (v + 2)]) → re_hg h1 (v + 1) = some (102, List.replicate 12 (.int 0)) → re_hg h1 (v + 2) = some (104, lst 12 (fun i => if i < n then .ref (v + 3 + 3 * i) else .null)) → (∀ i, i < n → cd h1 (v + 3 + 3 * i) []) → mo (fun a => a = v) (2 + 3 * n) h h1 → h1.1 = v + 3 + 3 * n → wp SC 64 (d + 1) q 23 [(0, .ref v), (1, .int (i32 n))] [] h1 Q := by
    intro k
    induction k with
    | zero =>
      intro n hn h1 e0 e1 e2 ec em el
      cases (show n = 12 by omega)
      refine B64_23 (fun _ => B64_48 (K h1 ⟨e0, ?_, ?_, fun i hi => ec i hi⟩ em (by omega))) (fun g => absurd ((i3_lt (by omega) (by omega)).mp g) (by omega))
      · rw [e1, rep_lst]; rfl
      · rw [e2]; exact congrArg (fun z => some (104, z)) (lst_ext (fun i hi => by rw [if_pos hi]))
    | succ k ih =>
      intro n hn h1 e0 e1 e2 ec em el
      refine B64_23 (fun g => absurd ((i3_lt (by omega) (by omega)).mpr (by omega)) g) (fun _ => B64_29 ⟨_, e0, rfl⟩ ?_)
      have q1 : (re_hq h1 (2, [.int 0, .null, .null])).1 = v + 3 + 3 * n + 1 := by rw [hq_1, el]
      have qs : re_hg (re_hq h1 (2, [.int 0, .null, .null])) (v + 3 + 3 * n) = some (2, [.int 0, .null, .null]) := by rw [← el]; exact hq_s
      rw [el]
      refine B64_37 qs rfl (c128 qs rfl rfl q1 (fun h2 zc m2 l2 => ret0 ?_))
      have g2 : ∀ a c, a < v + 3 + 3 * n → re_hg h1 a = some c → re_hg h2 a = some c := fun a c ha hc => mo_g m2 (by show ¬ a = _; omega) (hq_k hc)
      have e22 := g2 _ _ (by omega) e2
      have mm : mo (fun a => a = v) (2 + 3 * (n + 1)) h h2 := by
        refine mo_tr em (m := 3) ⟨⟨?_, fun a ha hs => ?_⟩, ?_, ?_⟩ (by omega)
        · rw [l2, q1, el]; omega
        · rw [m2.1.2 a (by rw [q1]; omega) (by show ¬ a = _; omega), hq_o (by omega)]
        · exact xk_tr xk_hq m2.2.1
        · rw [l2, q1, el]; exact Nat.le_refl _
      obtain ⟨h3, e3⟩ : ∃ h3, h3 = re_hw h2 (v + 2) (104, (lst 12 (fun i => if i < n then .ref (v + 3 + 3 * i) else .null)).set n (.ref (v + 3 + 3 * n))) := ⟨_, rfl⟩
      refine B64_41 e22 rfl (by omega) (by rw [lst_len]; omega) (Or.inr ⟨_, _, rfl, (cd_hg zc).choose_spec⟩) (B64_42 ?_)
      rw [i3_add, ← e3]
      have o3 : ∀ a, ¬ a = v + 2 → re_hg h3 a = re_hg h2 a := fun a ha => by rw [e3]; exact hw_n ha
      have x3 : xk h2 h3 := by rw [e3]; exact xk_hw e22 (by omega)
      have l3 : h3.1 = v + 3 + 3 * (n + 1) := by rw [e3, hw_1, l2, q1]; omega
      refine ih (n + 1) (by omega) h3 ?_ ?_ ?_ (fun i hi => ?_) ?_ l3
      · rw [o3 _ (by omega)]; exact g2 _ _ (by omega) e0
      · rw [o3 _ (by omega)]; exact g2 _ _ (by omega) e1
      · rw [e3, hw_s (by rw [l2, q1]; omega), lst_set]
        refine congrArg (fun z => some (104, z)) (lst_ext (fun i hi => ?_))
        rcases Nat.lt_trichotomy i n with g | g | g
        · rw [if_neg (by omega), if_pos g, if_pos (by omega)]
        · subst g; rw [if_pos rfl, if_pos (by omega)]
        · rw [if_neg (by omega), if_neg (by omega), if_neg (by omega)]
      · rcases Nat.lt_or_ge i n with g | g
        · refine cd_fr (fun a h1' h2' => ?_) x3 (cd_fr (h := h1) (fun a h1' h2' => ?_) (xk_tr xk_hq m2.2.1) (ec i g))
          · exact o3 a (by omega)
          · rw [m2.1.2 a (by rw [q1]; omega) (by show ¬ a = _; omega), hq_o (by omega)]
        · cases (show i = n by omega)
          exact cd_fr (fun a h1' h2' => o3 a (by omega)) x3 zc
      · exact ⟨⟨by omega, fun a ha hs => (o3 a (by omega)).trans (mm.1.2 a ha hs)⟩, xk_tr mm.2.1 x3, by omega⟩
  refine B64_0 (B64_4 (i := 12) (s' := q + 1) rfl (by omega) (by omega) (by omega) ?_)
  rw [show h.1 = v + 1 from hp, ← eA]
  refine B64_9 Av (by omega) ?_
  rw [← eB]
  refine B64_12 (i := 12) (s' := q) rfl (by omega) (by omega) (by omega) ?_
  rw [B1, ← eC]
  refine B64_18 Cv (by rw [List.length_set]; omega) ?_
  rw [← eD]
  refine B64_21 (loop 12 0 rfl hD Dv Da ?_ (fun i hi => absurd hi (by omega)) Dm D1)
  rw [Dc, rep_lst]
  exact congrArg (fun z => some (104, z)) (lst_ext (fun i hi => by rw [if_neg (by omega)]))
end VI
