/-! What is read is well made. -/
theorem rdN_w {V : Vr} {RR : Nat → Rs} {st0 c rid n : Nat} (hW : ∀ i k v, lkp k (rK (RR i)) = some v → wT v = true) (Y : Yt) (a1 : wT Y.2.1 = true) (a2 : isS Y.2.1 = true) (a3 : ∀ i, rK (Y.1 i) = rK (RR i)) : wT (rdN V st0 c rid n Y).2.1 = true ∧ isS (rdN V st0 c rid n Y).2.1 = true ∧ ∀ i, rK ((rdN V st0 c rid n Y).1 i) = rK (RR i) := by
  by_cases hb : (rds (V c).2).testBit n = true
  · cases hv : vin V Y.1 st0 n with
    | none =>
      rw [rdN_0 hb hv]
      exact ⟨a1, a2, fun i => sen_K.trans (a3 i)⟩
    | some v =>
      rw [rdN_1 hb hv]
      refine ⟨?_, rfl, fun i => sen_K.trans (a3 i)⟩
      unfold vin at hv
      obtain ⟨c', -, h2⟩ := Option.bind_eq_some_iff.mp hv
      rw [a3] at h2
      show wT (tB n rid v Y.2.1) = true
      rw [wT_B, a1, a2, hW _ _ _ h2]
      rfl
  · unfold rdN
    rw [if_neg hb]
    exact ⟨a1, a2, a3⟩
theorem rdA_w {V : Vr} {RR : Nat → Rs} {st0 c rid : Nat} {env : Tr} (hW : ∀ i k v, lkp k (rK (RR i)) = some v → wT v = true) (hw : wT env = true) (hs : isS env = true) : ∀ n, wT (rdA V st0 c rid n (RR, env, true)).2.1 = true ∧ isS (rdA V st0 c rid n (RR, env, true)).2.1 = true ∧ ∀ i, rK ((rdA V st0 c rid n (RR, env, true)).1 i) = rK (RR i)
  | 0 => ⟨hw, hs, fun _ => rfl⟩
  | n + 1 => by
    obtain ⟨a1, a2, a3⟩ := rdA_w (V := V) (st0 := st0) (c := c) (rid := rid) hW hw hs n
    exact rdN_w hW _ a1 a2 a3
