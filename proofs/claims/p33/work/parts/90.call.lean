/-! The law's call: what is thrown is told as a number. -/
section WH
variable {SC : List Value} {y d s pc : Nat} {lv : List (Nat × Value)} {st : List Value} {h : re_H} {Q : Nat → Value → re_H → Prop}
/-- what a call comes back to, where exceptions are caught -/
def wp_rth (SC : List Value) (y d s pc : Nat) (lv : List (Nat × Value)) (st : List Value) (Q : Nat → Value → re_H → Prop) : Nat → Value → re_H → Prop :=
  fun k v h' => (k < 4 ∧ wp SC y d s (pc + 3) lv (if k = 0 then st else v :: st) h' Q) ∨ (¬ k < 4 ∧ ∃ hp kk npc, re_hf (re_hk rG y) pc (k - 4) (re_hh rG y) = some (some hp) ∧ re_hs (re_nl rG y) (re_ins rG y hp) hp = some (kk, npc) ∧ wp SC y d s npc (re_lv9 lv kk) [] h' Q)
theorem wp_callSH {s1 s2 d' y' k idx : Nat} {ar rest : List Value} (hf : ft y pc (.invokestatic idx)) (hc : re_cl rG y idx = some (k, y', ar.length)) (hk : k = 0 ∨ k = 4 ∨ k = 8) (hjd : re_jd rG y idx = none) (hr : re_cat rest ≤ 8) (hn : re_cat ar.reverse ≤ re_nl rG y') (hml : re_nl rG y' ≤ 80) (hd : d = d' + 1) (hs : s1 + s2 ≤ s)
    (K : wp SC y' d' s1 0 (lv_args 0 ar.reverse) [] h (wp_rth SC y d s2 pc lv rest Q)) : wp SC y d s pc lv (ar ++ rest) h Q := by
  obtain ⟨n, a, k1, ⟨k2, k3, k4, k5, k6⟩, k7⟩ := K
  subst hd
  have e1 : (ar ++ rest).take ar.length = ar := by simp
  have e2 : (ar ++ rest).drop ar.length = rest := by simp
  have key : ∀ (m : Nat) (r : re_Res), re_go rG (rO SC) m y' 0 (lv_args 0 ar.reverse) [] h = some a → (if a.1 < 4 then (re_go rG (rO SC) m y (pc + 3) lv (re_vl a rest) a.2.2.1).map (re_aft (re_nl rG y') a) else (match re_hf (re_hk rG y) pc (a.1 - 4) (re_hh rG y) with
                      | some none => some (re_aft (re_nl rG y') a (a.1, a.2.1, a.2.2.1, 0, 0, 0, 0))
                      | some (some hp) => (match re_hs (re_nl rG y) (re_ins rG y hp) hp with
                        | some (k, npc) => (re_go rG (rO SC) m y npc (re_lv9 lv k) [] a.2.2.1).map (re_aft (re_nl rG y') a)
                        | none => none)
                      | none => none)) = some r → re_go rG (rO SC) (m + 1) y pc lv (ar ++ rest) h = some r := by
    intro m r ha hz
    rw [re_go.eq_def]
    rcases hk with rfl | rfl | rfl <;> simp only [hf.1, hf.2, re_pure, re_hp, re_ret, re_mk, re_cst, re_acm, re_ora, rO, re_scr, re_jdk, hjd, re_inv, hc, e1, e2, hr, hn, and_self, if_true, Nat.reduceEqDiff, if_false, or_true, true_or, or_self, false_or, or_false] <;> (rw [show re_go rG (fun _ _ _ => none, fun _ _ _ => none, SC, fun _ _ _ => none) m y' 0 (lv_args 0 ar.reverse) [] h = some a from ha]; exact hz)
  have fin : ∀ (npc : Nat) (lv' : List (Nat × Value)) (st' : List Value), wp SC y (d' + 1) s2 npc lv' st' a.2.2.1 Q → (∀ m r, re_go rG (rO SC) m y' 0 (lv_args 0 ar.reverse) [] h = some a → (re_go rG (rO SC) m y npc lv' st' a.2.2.1).map (re_aft (re_nl rG y') a) = some r → re_go rG (rO SC) (m + 1) y pc lv (ar ++ rest) h = some r) → wp SC y (d' + 1) s pc lv (ar ++ rest) h Q := by
    intro npc lv' st' k7 hz
    obtain ⟨m, r, j1, ⟨j2, j3, j4, j5, j6⟩, j7⟩ := k7
    have k1' := re_more n (max n m) y' 0 _ _ [] h a (Nat.le_max_left _ _) (fun i v z => z) k1
    have j1' := re_more m (max n m) y npc _ lv' _ _ r (Nat.le_max_right _ _) (fun i v z => z) j1
    refine ⟨max n m + 1, re_aft (re_nl rG y') a r, hz _ _ k1' (by rw [j1']; rfl), ⟨?_, ?_, ?_, ?_, ?_⟩, j7⟩
    · show h.1 ≤ r.2.2.1.1
      omega
    · show h.1 + (a.2.2.2.1 + r.2.2.2.1) ≤ r.2.2.1.1 + s
      omega
    · show a.2.2.2.2.1 + r.2.2.2.2.1 ≤ 11 * (a.2.2.2.1 + r.2.2.2.1) + 2 * s
      omega
    · show max (a.2.2.2.2.2.1 + 1) r.2.2.2.2.2.1 ≤ d' + 1 + 6
      omega
    · show max (8 + (re_nl rG y' + 11) + a.2.2.2.2.2.2) r.2.2.2.2.2.2 ≤ 100 * (d' + 1) + 200
      omega
  rcases k7 with ⟨h4, k7⟩ | ⟨h4, hp, kk, npc, x1, x2, k7⟩
  · refine fin (pc + 3) lv _ k7 (fun m r ha hz => key m r ha ?_)
    rw [if_pos h4]
    exact hz
  · refine fin npc (re_lv9 lv kk) [] k7 (fun m r ha hz => key m r ha ?_)
    rw [if_neg h4, x1]
    dsimp only
    rw [x2]
    exact hz
end WH
/-- what a call tells -/
def tl9 (Q : Nat → Value → re_H → Prop) : Nat → Value → re_H → Prop := fun k v h' => (k = 2 ∧ ∃ l, v = .long l ∧ Q 2 (.long l) h') ∨ (k = 6 ∧ Q 2 (.long (-2000000001)) h') ∨ (k = 5 ∧ Q 2 (.long (-2000000002)) h') ∨ (k = 4 ∧ Q 2 (.long (-2000000003)) h')
theorem c579 {SC : List Value} {d s a : Nat} {w x y : Int32} {h : re_H} {Q : Nat → Value → re_H → Prop} (K : wp SC 580 d s 0 [(0, .ref a), (1, .int w), (2, .int x), (3, .int y)] [] h (tl9 Q)) : wp SC 579 (d + 1) s 0 [(0, .ref a), (1, .int w), (2, .int x), (3, .int y)] [] h Q := by
  refine wp_run 4 (pc' := 4) (lv' := [(0, .ref a), (1, .int w), (2, .int x), (3, .int y)]) (st' := [.int y, .int x, .int w, .ref a]) rfl ?_
  have eA : lv_args 0 ([.int y, .int x, .int w, .ref a].reverse) = [(0, .ref a), (1, .int w), (2, .int x), (3, .int y)] := by simp [lv_args, vc_i, vc_l, vc_r, vc_n, vc_a]
  refine wp_callSH (ar := [.int y, .int x, .int w, .ref a]) (rest := []) (s1 := s) (s2 := 0) (d' := d) ⟨rfl, rfl⟩ rfl (Or.inl rfl) rfl (by decide) (by rw [show re_cat ([.int y, .int x, .int w, .ref a].reverse) = 4 from by simp [re_cat, vc_i, vc_l, vc_r, vc_n, vc_a]]; decide) (by decide) rfl (Nat.le_refl _) ?_
  rw [eA]
  refine wp_mono K (fun k v h' z => ?_)
  rcases z with ⟨rfl, l, rfl, z⟩ | ⟨rfl, z⟩ | ⟨rfl, z⟩ | ⟨rfl, z⟩
  · refine Or.inl ⟨by omega, ?_⟩
    exact wp_weak (re_sb_nil _) (B579_7 z)
  · exact Or.inr ⟨by omega, 8, 4, 10, rfl, rfl, wp_weak (re_sb_nil _) (B579_10 z)⟩
  · exact Or.inr ⟨by omega, 14, 4, 16, rfl, rfl, wp_weak (re_sb_nil _) (B579_16 z)⟩
  · exact Or.inr ⟨by omega, 20, 4, 22, rfl, rfl, wp_weak (re_sb_nil _) (B579_22 z)⟩
