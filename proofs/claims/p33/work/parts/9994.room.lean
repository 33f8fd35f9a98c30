/-! How large the heap is at the end. -/
theorem NB_len {h : re_H} {b : Nat} {A : Nb} {N : List Nat} {ff W : Nat} (z : NB h b A N ff W) : N.length ≤ 2 * W + 820 := by
  obtain ⟨E, F, ho, la, f0, -, -, -, -, -, -, y⟩ := z.2.2.2.1
  exact y
theorem JH_len {h : re_H} {A A' : Nb} {N N' : List Nat} {ff zz : Nat} {ds : List Value} (z : JH h A A' N N' ff zz ds) (hz : zz ≤ 6792) : h.1 ≤ 592715 := by
  have h1 := NB_len z.1
  have h2 := NB_len z.2.1
  have h3 := z.2.2.2.2
  unfold Wo at h1
  unfold Wt at h2
  omega
