/-! Expr: its other methods. -/
section RT
variable {SC : List Value} {y d s pc : Nat} {lv : List (Nat × Value)} {st : List Value} {h' : re_H} {Q : Nat → Value → re_H → Prop}
theorem ret0 {v : Value} (k : wp SC y d s pc lv st h' Q) : wp_ret SC y d s pc lv st Q 0 v h' := by
  unfold wp_ret; rw [if_pos (by omega), if_pos rfl]; exact k
theorem ret1 {v : Value} (k : wp SC y d s pc lv (v :: st) h' Q) : wp_ret SC y d s pc lv st Q 1 v h' := by
  unfold wp_ret; rw [if_pos (by omega), if_neg (by omega)]; exact k
theorem ret2 {v : Value} (k : wp SC y d s pc lv (v :: st) h' Q) : wp_ret SC y d s pc lv st Q 2 v h' := by
  unfold wp_ret; rw [if_pos (by omega), if_neg (by omega)]; exact k
theorem ret3 {v : Value} (k : wp SC y d s pc lv (v :: st) h' Q) : wp_ret SC y d s pc lv st Q 3 v h' := by
  unfold wp_ret; rw [if_pos (by omega), if_neg (by omega)]; exact k
theorem retx {x : Nat} {v : Value} (k : Q (4 + x) v h') : wp_ret SC y d s pc lv st Q (4 + x) v h' := by
  unfold wp_ret; rw [if_neg (by omega)]; exact k
end RT
noncomputable def teq (a b : Tr) : Bool := @decide (a = b) (Classical.propDecidable _)
theorem teq_t {a b : Tr} : teq a b = true ↔ a = b := by unfold teq; simp
theorem teq_f {a b : Tr} : teq a b = false ↔ ¬ a = b := by unfold teq; simp
theorem teq_ne {a b : Tr} (h : ¬ a = b) : teq a b = false := teq_f.mpr h
theorem tE_inj {s w s' w' : Nat} {n n' : Int64} {a b c a' b' c' : Tr} : tE s w n a b c = tE s' w' n' a' b' c' ↔ s = s' ∧ w = w' ∧ n = n' ∧ a = a' ∧ b = b' ∧ c = c' := by
  unfold tE
  constructor
  · intro h
    injection h with h1 h2 h3 h4 h5
    injection h5 with h6 h7 h8 h9 h10
    cases h2
    exact ⟨rfl, rfl, rfl, h4, h9, h10⟩
  · rintro ⟨rfl, rfl, rfl, rfl, rfl, rfl⟩
    rfl
theorem tE_ne {s w : Nat} {n : Int64} {a b c : Tr} : ¬ tE s w n a b c = .leaf := fun h => by cases h
theorem nb_wo_le (a b : Nat) : ∀ k, (nb_wo a b).testBit k = true → a.testBit k = true := fun k h => by
  rw [nb_wo_bit] at h
  exact ((Bool.and_eq_true _ _).mp h).1
theorem lt_of_bits {a n : Nat} (h : ∀ k, a.testBit k = true → k < n) : a < 2 ^ n := by
  refine Nat.lt_pow_two_of_testBit a (fun k hk => ?_)
  cases hz : a.testBit k with
  | false => rfl
  | true => exact absurd (h k hz) (by omega)
theorem bits_lt {a n : Nat} (h : a < 2 ^ n) : ∀ k, a.testBit k = true → k < n := fun k hk => by
  rcases Nat.lt_or_ge k n with g | g
  · exact g
  · rw [Nat.testBit_lt_two_pow (Nat.lt_of_lt_of_le h (Nat.pow_le_pow_right (by omega) g))] at hk
    cases hk
theorem wo_lt {a b n : Nat} (h : a < 2 ^ n) : nb_wo a b < 2 ^ n := lt_of_bits (fun k hk => bits_lt h k (nb_wo_le a b k hk))
theorem pow_lt16 {w : Nat} (h : w < 16) : 2 ^ w < 2 ^ 16 := Nat.pow_lt_pow_right (by omega) h
theorem fre_lt {h : re_H} : ∀ {e : Tr} {v : Value}, ex h e v → fre e < 2 ^ 16 ∧ men e < 2 ^ 16 ∧ inps e < 2 ^ 16 := by
  intro e
  match e with
  | .leaf => exact fun {v} z => ⟨by decide, by decide, by decide⟩
  | .inner k0 l u a .leaf => exact fun {v} z => absurd z id
  | .inner k0 l u a (.inner k2 l2 u2 b c) =>
    intro v z
    obtain ⟨⟨-, -, -, h1, h2⟩, x, va, vb, vc, -, -, h4, h5, h6⟩ := z
    have ia := fre_lt h4
    have ib' := fre_lt h5
    have ic := fre_lt h6
    have hp := pow_lt16 h2
    have z16 : 0 < 2 ^ 16 := by decide
    refine ⟨?_, ?_, ?_⟩
    · show (if l.1 = 1 then 2 ^ l.2.1 else 0) ||| fre a ||| nb_wo (fre b) (nb_bnd l.1 l.2.1) ||| fre c < 2 ^ 16
      refine Nat.or_lt_two_pow (Nat.or_lt_two_pow (Nat.or_lt_two_pow ?_ ia.1) (wo_lt ib'.1)) ic.1
      split <;> assumption
    · show nb_own l.1 l.2.1 ||| men a ||| men b ||| men c < 2 ^ 16
      refine Nat.or_lt_two_pow (Nat.or_lt_two_pow (Nat.or_lt_two_pow ?_ ia.2.1) ib'.2.1) ic.2.1
      unfold nb_own
      split <;> assumption
    · show (if l.1 = 2 then 2 ^ l.2.1 else 0) ||| inps a ||| inps b ||| inps c < 2 ^ 16
      refine Nat.or_lt_two_pow (Nat.or_lt_two_pow (Nat.or_lt_two_pow ?_ ia.2.2) ib'.2.2) ic.2.2
      split <;> assumption
theorem ex_inj {h : re_H} : ∀ {e e' : Tr} {v : Value}, ex h e v → ex h e' v → e = e' := by
  intro e
  match e with
  | .leaf => exact fun {e' v} z z' => by cases (show v = .null from z); exact (ex_null z').symm
  | .inner k0 l u a .leaf => exact fun {e' v} z => absurd z id
  | .inner k0 l u a (.inner k2 l2 u2 b c) =>
    intro e' v z z'
    obtain ⟨⟨rfl, rfl, rfl, h1, h2⟩, x, va, vb, vc, rfl, h3, h4, h5, h6⟩ := z
    rcases ex_cases z' with ⟨-, g1⟩ | ⟨s, w, n, a', b', c', x', va', vb', vc', rfl, g1, g2, g3, g4, g5, g6⟩
    · cases g1
    · cases g1
      rw [h3] at g3
      simp only [nb_ec, Option.some.injEq, Prod.mk.injEq, List.cons.injEq, Value.int.injEq, Value.long.injEq, true_and, and_true] at g3
      obtain ⟨q1, q2, q3, rfl, rfl, rfl, -⟩ := g3
      have e1 := (i3_eq (by omega) (by omega)).mp q1
      have e2 := (i3_eq (by omega) (by omega)).mp q2
      rw [ex_inj h4 g4, ex_inj h5 g5, ex_inj h6 g6]
      show tE l.1 l.2.1 l.2.2 _ _ _ = _
      rw [e1, e2, q3]
theorem ex_lt {h : re_H} {e : Tr} {x : Nat} (z : ex h e (.ref x)) : x < h.1 := by
  obtain ⟨⟨w, h1, -⟩, -⟩ := ex_fd z
  exact hg_lt h1
section EX
variable {SC : List Value} {q : Nat} {h : re_H} {Q : Nat → Value → re_H → Prop}
theorem c643 {d x nm : Nat} {e : Tr} (z : ex h e (.ref x)) (hn : nm < 16) (K : Q 1 (.int (ib ((fre e).testBit nm))) h) : wp SC 643 d q 0 [(0, .ref x), (1, .int (i32 nm))] [] h Q := by
  have hb := i3_bit (m := fre e) (k := nm) (by have := (fre_lt z).1; omega) (by omega)
  refine B643_0 (ex_fd z).2.1 (fun g => B643_16 (B643_17 (Or.inl rfl) ?_)) (fun g => B643_12 (B643_17 (Or.inr rfl) ?_))
  · rw [hb] at g
    cases ht : (fre e).testBit nm with
    | false => rw [ht] at K; exact K
    | true => rw [ht] at g; exact absurd rfl g
  · rw [hb] at g
    cases ht : (fre e).testBit nm with
    | true => rw [ht] at K; exact K
    | false => rw [ht] at g; exact absurd g (by decide)
theorem c641 {e1 : Tr} : ∀ {d : Nat} {e2 : Tr} {v1 v2 : Value} {q : Nat} {Q : Nat → Value → re_H → Prop}, ex h e1 v1 → ex h e2 v2 → dep e1 ≤ d → Q 1 (.int (ib (teq e1 e2))) h → wp SC 641 d q 0 [(0, v1), (1, v2)] [] h Q := by
  match e1 with
  | .leaf =>
    intro d e2 v1 v2 q Q z1 z2 hd K
    cases (show v1 = .null from z1)
    refine B641_0 (Or.inl rfl) (ex_R z2) (fun g => B641_7 (Or.inl rfl) (ex_R z2) (fun _ => B641_15 ?_) (fun b hb => by cases hb)) (fun g => B641_5 ?_)
    · rw [teq_ne (fun e => g (by subst e; exact (show v2 = .null from z2).symm))] at K; exact K
    · rw [teq_t.mpr (by subst g; exact (ex_null z2).symm)] at K; exact K
  | .inner k0 l u a .leaf => exact fun {d e2 v1 v2 q Q} z => absurd z id
  | .inner k0 l u a (.inner k2 l2 u2 b c) =>
    intro d e2 v1 v2 q Q z1 z2 hd K
    have z1' := z1
    obtain ⟨⟨rfl, rfl, rfl, h1, h2⟩, x, va, vb, vc, rfl, h3, h4, h5, h6⟩ := z1
    have hd' : 1 + max (dep a) (max (dep b) (dep c)) ≤ d := hd
    obtain ⟨d, rfl⟩ : ∃ k, d = k + 1 := ⟨d - 1, by omega⟩
    refine B641_0 (Or.inr ⟨x, rfl⟩) (ex_R z2) (fun g => ?_) (fun g => B641_5 ?_)
    rotate_left
    · rw [teq_t.mpr (by subst g; exact ex_inj z1' z2)] at K; exact K
    refine B641_7 (Or.inr ⟨x, rfl⟩) (ex_R z2) (fun hb => by cases hb) (fun y hy => ?_)
    cases hy
    rcases ex_cases z2 with ⟨rfl, rfl⟩ | ⟨s, w, n, a', b', c', x', va', vb', vc', rfl, rfl, g2, g3, g4, g5, g6⟩
    · refine B641_11 (Or.inl rfl) (fun _ => B641_15 ?_) (fun b hb => by cases hb)
      rw [teq_ne (fun e => by cases e)] at K; exact K
    refine B641_11 (Or.inr ⟨x', rfl⟩) (fun hb => by cases hb) (fun y hy => ?_)
    cases hy
    have K' : Q 1 (.int (ib (teq (tE l.1 l.2.1 l.2.2 a b c) (tE s w n a' b' c')))) h := K
    have no : ¬ (l.1 = s ∧ l.2.1 = w ∧ l.2.2 = n ∧ a = a' ∧ b = b' ∧ c = c') → wp SC 641 (d + 1) q 97 [] [] h Q := fun ne => by
      refine B641_97 (B641_98 (Or.inl rfl) ?_)
      rw [teq_ne (fun e => ne (tE_inj.mp e))] at K'; exact K'
    refine B641_17 ⟨_, h3, rfl⟩ ⟨_, g3, rfl⟩ (fun g => no (fun y => g (by rw [y.1]))) (fun g => ?_)
    have es := (i3_eq (by omega) (by omega)).mp g
    refine B641_28 ⟨_, h3, rfl⟩ ⟨_, g3, rfl⟩ (fun g => no (fun y => g (by rw [y.2.1]))) (fun g => ?_)
    have ew := (i3_eq (by omega) (by omega)).mp g
    refine B641_39 ⟨_, h3, rfl⟩ ⟨_, g3, rfl⟩ (fun g => no (fun y => g y.2.2.1)) (fun en => ?_)
    refine B641_51 (ex_R h4) ⟨_, h3, rfl⟩ (ex_R g4) ⟨_, g3, rfl⟩ (c641 h4 g4 (by omega) (ret1 ?_))
    refine B641_62 (fun g => no (fun y => teq_f.mp (ib_0.mp g) y.2.2.2.1)) (fun g => ?_)
    have ea : a = a' := Classical.not_not.mp (fun y => g (ib_0.mpr (teq_ne y)))
    refine B641_65 (ex_R h5) ⟨_, h3, rfl⟩ (ex_R g5) ⟨_, g3, rfl⟩ (c641 h5 g5 (by omega) (ret1 ?_))
    refine B641_76 (fun g => no (fun y => teq_f.mp (ib_0.mp g) y.2.2.2.2.1)) (fun g => ?_)
    have eb : b = b' := Classical.not_not.mp (fun y => g (ib_0.mpr (teq_ne y)))
    refine B641_79 (ex_R h6) ⟨_, h3, rfl⟩ (ex_R g6) ⟨_, g3, rfl⟩ (c641 h6 g6 (by omega) (ret1 ?_))
    refine B641_90 (fun g => no (fun y => teq_f.mp (ib_0.mp g) y.2.2.2.2.2)) (fun g => ?_)
    have ec : c = c' := Classical.not_not.mp (fun y => g (ib_0.mpr (teq_ne y)))
    refine B641_93 (B641_98 (Or.inr rfl) ?_)
    rw [teq_t.mpr (tE_inj.mpr ⟨es, ew, en, ea, eb, ec⟩)] at K'; exact K'
end EX
