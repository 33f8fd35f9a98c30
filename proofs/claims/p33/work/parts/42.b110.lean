theorem B704_0 {SC : List Value} {d s : Nat} {h : re_H} {Q : Nat → Value → re_H → Prop} {a0 : Nat}
    (K : wp SC 704 d s 4 [] [] h Q) : wp SC 704 d s 0 [(0, .ref a0)] [] h Q := by
  refine wp_run 1 (pc' := 1) (lv' := [(0, .ref a0)]) (st' := [.ref a0]) rfl ?_
  refine wp_obj ⟨rfl, rfl⟩ rfl (by simp [re_cat, vc_i, vc_l, vc_r, vc_n, vc_a]) ?_
  exact wp_weak (re_sb_nil _) K
theorem B704_4 {SC : List Value} {d s : Nat} {h : re_H} {Q : Nat → Value → re_H → Prop} 
    (K : Q 0 .null h) : wp SC 704 d s 4 [] [] h Q := by
  exact wp_retv ⟨rfl, rfl⟩ rfl K
