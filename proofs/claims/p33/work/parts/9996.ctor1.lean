/-! Small constructors. -/
section KT
variable {SC : List Value} {d q : Nat} {h : re_H} {Q : Nat → Value → re_H → Prop} {a0 a1 a2 a3 a4 : Nat} {x5 : Int32}
theorem c512 (e : re_hg h a0 = some (8, [.null, .null, .null, .null, .int 0])) (K : ∀ h', re_hg h' a0 = some (8, [.ref a1, .ref a2, .ref a3, .ref a4, .int x5]) → (∀ a, ¬ a = a0 → re_hg h' a = re_hg h a) → h'.1 = h.1 → Q 0 .null h') : wp SC 512 d q 0 [(0, .ref a0), (1, .ref a1), (2, .ref a2), (3, .ref a3), (4, .ref a4), (5, .int x5)] [] h Q := by
  have l0 := hg_lt e
  refine B512_0 (B512_4 e (by show 0 < 5; omega) (B512_9 (hw_s l0) (by show 1 < 5; omega) (B512_14 (hw_s l0) (by show 2 < 5; omega) (B512_19 (hw_s l0) (by show 3 < 5; omega) (B512_25 (hw_s l0) (by show 4 < 5; omega) (B512_31 (K _ (hw_s l0) (fun a ha => ?_) rfl)))))))
  rw [hw_n ha, hw_n ha, hw_n ha, hw_n ha, hw_n ha]
theorem c384 (e : re_hg h a0 = some (6, [.null, .null, .null, .null, .int 0, .int 0])) (K : ∀ h', re_hg h' a0 = some (6, [.ref a1, .null, .null, .null, .int 0, .int 0]) → (∀ a, ¬ a = a0 → re_hg h' a = re_hg h a) → h'.1 = h.1 → Q 0 .null h') : wp SC 384 d q 0 [(0, .ref a0), (1, .ref a1)] [] h Q := by
  have l0 := hg_lt e
  exact B384_0 (B384_4 e (by show 0 < 6; omega) (B384_9 (K _ (hw_s l0) (fun a ha => hw_n ha) rfl)))
end KT
