/-! Small constructors. -/
section KT
variable {SC : List Value} {d q : Nat} {h : re_H} {Q : Nat → Value → re_H → Prop} {a0 a1 a2 a3 a4 : Nat} {x5 : Int32}
theorem c512 (e : re_hg h a0 = some (8, [.null, .null, .null, .null, .int 0])) (K : ∀ h', re_hg h' a0 = some (8, [.ref a1, .ref a2, .ref a3, .ref a4, .int x5]) → (∀ a, ¬ a = a0 → re_hg h' a = re_hg h a) → h'.1 = h.1 → Q 0 .null h') : wp SC 512 d q 0 [(0, .ref a0), (1, .ref a1), (2, .ref a2), (3, .ref a3), (4, .ref a4), (5, .int x5)] [] h Q := by
  have l0 := hg_lt e
  refine B512_0 (B512_4 e (by show 0 < 5; omega) (B512_9 (hw_s l0) (by show 1 < 5; omega) (B512_14 (hw_s l0) (by show 2 < 5; omega) (B512_19 (hw_s l0) (by show 3 < 5; omega) (B512_25 (hw_s l0) (by show 4 < 5; omega) (B512_31 (K _ (hw_s l0) (fun a ha => ?_) rfl)))))))
  rw [hw_n ha, hw_n ha, hw_n ha, hw_n ha, hw_n ha]
theorem c384 (e : re_hg h a0 = some (6, [.null, .null, .null, .null, .int 0, .int 0])) (K : ∀ h', re_hg h' a0 = some (6, [.ref a1, .null, .null, .null, .int 0, .int 0]) → (∀ a, ¬ a = a0 → re_hg h' a = re_hg h a) → h'.1 = h.1 → Q 0 .null h') : wp SC 384 d q 0 [(0, .ref a0), (1, .ref a1)] [] h Q := by
  have l0 := hg_lt e
  exact B384_0 (B384_4 e (by show 0 < 6; omega) (B384_9 (K _ (hw_s l0) (fun a ha => hw_n ha) rfl)))
theorem c256 (e : re_hg h a0 = some (4, [.null, .int 0])) (K : ∀ h', re_hg h' a0 = some (4, [.ref h.1, .int 0]) → re_hg h' h.1 = some (101, List.replicate 4 (.long 0)) → (∀ a, a < h.1 → ¬ a = a0 → re_hg h' a = re_hg h a) → h'.1 = h.1 + 1 → Q 0 .null h') : wp SC 256 d q 0 [(0, .ref a0)] [] h Q := by
  have l0 := hg_lt e
  have l1 : a0 < (re_hq h (101, List.replicate 4 (.long 0))).1 := by rw [hq_1]; omega
  refine B256_0 (B256_4 (i := 4) (s' := q) rfl (by omega) (by omega) (Nat.le_refl _) (B256_8 (hq_k e) (by show 0 < 2; omega) (B256_11 (K _ (hw_s l1) ?_ (fun a h1 h2 => ?_) rfl))))
  · rw [hw_n (show ¬ h.1 = a0 by omega)]
    exact hq_s
  · rw [hw_n h2]
    exact hq_o h1
end KT
