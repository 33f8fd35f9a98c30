/-! What is refused changes nothing. -/
section RF
variable {SC : List Value} {q : Nat} {h : re_H} {Q : Nat → Value → re_H → Prop} {b ff W : Nat} {A : Nb} {N : List Nat} {bh : Nat}
theorem i9_bl (hi : inv1 A bh) : ¬ i32 9 < i32 (nB A).length := by
  obtain ⟨-, -, -, -, -, -, -, -, -, h, -⟩ := hi
  exact fun g => absurd ((i3_lt (by omega) (by omega)).mp g) (by omega)
theorem c11q : CS SC (i32 11) (i32 0) (i32 16) A W OUT9 A 0 1 := by
  cases ht : ((nV A) 0).1 with
  | true => exact cs11b (c := 0) (by decide) ht (Or.inr (by decide))
  | false => exact cs11x (Or.inr (Or.inr ⟨0, by decide, rfl, ht⟩))
theorem rf5 {m s : Nat} {l : Int64} (z : NB h b A N ff W) (hf : ff + 40000 < 2 ^ 62) (K : ∀ h' N', NB h' b A N' (ff + 36000) W → ofr b 0 h N h' N' → wp SC 587 39 s 20 [(0, .ref b), (1, .int (i32 m)), (2, .long l)] [] h' Q) : wp SC 587 39 (s + 1) 5 [(0, .ref b), (1, .int (i32 m))] [.long l] h Q :=
  L587_5 (s1 := 0 + 1) (s2 := s) (by omega) (wp_up (d := 37) (by omega) (Nat.le_refl _) (cs1x (Or.inl (by decide)) h b N _ 0 _ z hf (fun h2 N2 z2 y => ret2 (B587_13 (fun g => absurd rfl g) (fun _ => K h2 N2 z2 y)))))
theorem rf20 {m s : Nat} {l : Int64} (z : NB h b A N ff W) (hf : ff + 40000 < 2 ^ 62) (K : ∀ h' N', NB h' b A N' (ff + 36000) W → ofr b 0 h N h' N' → wp SC 587 39 s 34 [(0, .ref b), (1, .int (i32 m)), (2, .long l)] [] h' Q) : wp SC 587 39 (s + 1) 20 [(0, .ref b), (1, .int (i32 m)), (2, .long l)] [] h Q :=
  L587_20 (s1 := 0 + 1) (s2 := s) (by omega) (wp_up (d := 37) (by omega) (Nat.le_refl _) (cs2x (Or.inr (by decide)) h b N _ 0 _ z hf (fun h2 N2 z2 y => ret2 (B587_27 (fun g => absurd rfl g) (fun _ => K h2 N2 z2 y)))))
theorem rf34 {m s : Nat} {l : Int64} (z : NB h b A N ff W) (hf : ff + 40000 < 2 ^ 62) (K : ∀ h' N', NB h' b A N' (ff + 36000) W → ofr b 0 h N h' N' → wp SC 587 39 s 48 [(0, .ref b), (1, .int (i32 m)), (2, .long l)] [] h' Q) : wp SC 587 39 (s + 1) 34 [(0, .ref b), (1, .int (i32 m)), (2, .long l)] [] h Q :=
  L587_34 (s1 := 0 + 1) (s2 := s) (by omega) (wp_up (d := 37) (by omega) (Nat.le_refl _) (cs4x (Or.inl (by decide)) h b N _ 0 _ z hf (fun h2 N2 z2 y => ret2 (B587_41 (fun g => absurd rfl g) (fun _ => K h2 N2 z2 y)))))
theorem rf48 {m s : Nat} {l : Int64} (z : NB h b A N ff W) (hf : ff + 40000 < 2 ^ 62) (K : ∀ h' N', NB h' b A N' (ff + 36000) W → ofr b 0 h N h' N' → wp SC 587 39 s 64 [(0, .ref b), (1, .int (i32 m)), (2, .long l)] [] h' Q) : wp SC 587 39 (s + 1) 48 [(0, .ref b), (1, .int (i32 m)), (2, .long l)] [] h Q :=
  L587_48 (s1 := 0 + 1) (s2 := s) (by omega) (wp_up (d := 37) (by omega) (Nat.le_refl _) (cs6x (Or.inr (by decide)) h b N _ 0 _ z hf (fun h2 N2 z2 y => ret2 (B587_57 (fun g => absurd rfl g) (fun _ => K h2 N2 z2 y)))))
theorem rf64 {m s : Nat} {l : Int64} (z : NB h b A N ff W) (hf : ff + 40000 < 2 ^ 62) (K : ∀ h' N', NB h' b A N' (ff + 36000) W → ofr b 0 h N h' N' → wp SC 587 39 s 79 [(0, .ref b), (1, .int (i32 m)), (2, .long l)] [] h' Q) : wp SC 587 39 (s + 1) 64 [(0, .ref b), (1, .int (i32 m)), (2, .long l)] [] h Q :=
  L587_64 (s1 := 0 + 1) (s2 := s) (by omega) (wp_up (d := 37) (by omega) (Nat.le_refl _) (cs7x (Or.inl (by decide)) h b N _ 0 _ z hf (fun h2 N2 z2 y => ret2 (B587_72 (fun g => absurd rfl g) (fun _ => K h2 N2 z2 y)))))
theorem rf79 {m s : Nat} {l : Int64} (z : NB h b A N ff W) (hf : ff + 40000 < 2 ^ 62) (K : ∀ h' N', NB h' b A N' (ff + 36000) W → ofr b 0 h N h' N' → wp SC 587 39 s 94 [(0, .ref b), (1, .int (i32 m)), (2, .long l)] [] h' Q) : wp SC 587 39 (s + 1) 79 [(0, .ref b), (1, .int (i32 m)), (2, .long l)] [] h Q :=
  L587_79 (s1 := 0 + 1) (s2 := s) (by omega) (wp_up (d := 37) (by omega) (Nat.le_refl _) (cs10x (Or.inl (by decide)) h b N _ 0 _ z hf (fun h2 N2 z2 y => ret2 (B587_87 (fun g => absurd rfl g) (fun _ => K h2 N2 z2 y)))))
theorem rf94 {m s : Nat} {l : Int64} (z : NB h b A N ff W) (hf : ff + 40000 < 2 ^ 62) (K : ∀ h' N', NB h' b A N' (ff + 36000) W → ofr b 0 h N h' N' → wp SC 587 39 s 110 [(0, .ref b), (1, .int (i32 m)), (2, .long l)] [] h' Q) : wp SC 587 39 (s + 1) 94 [(0, .ref b), (1, .int (i32 m)), (2, .long l)] [] h Q :=
  L587_94 (s1 := 0 + 1) (s2 := s) (by omega) (wp_up (d := 37) (by omega) (Nat.le_refl _) (cs10x (Or.inr (Or.inl (by decide))) h b N _ 0 _ z hf (fun h2 N2 z2 y => ret2 (B587_103 (fun g => absurd rfl g) (fun _ => K h2 N2 z2 y)))))
theorem rf110 {m s : Nat} {l : Int64} (z : NB h b A N ff W) (hf : ff + 40000 < 2 ^ 62) (K : ∀ h' N', NB h' b A N' (ff + 36000) W → ofr b 0 h N h' N' → wp SC 587 39 s 126 [(0, .ref b), (1, .int (i32 m)), (2, .long l)] [] h' Q) : wp SC 587 39 (s + 1) 110 [(0, .ref b), (1, .int (i32 m)), (2, .long l)] [] h Q :=
  L587_110 (s1 := 0 + 1) (s2 := s) (by omega) (wp_up (d := 37) (by omega) (Nat.le_refl _) (c11q h b N _ 0 _ z hf (fun h2 N2 z2 y => ret2 (B587_119 (fun g => absurd rfl g) (fun _ => K h2 N2 z2 y)))))
theorem rf126 {m s : Nat} {l : Int64} (z : NB h b A N ff W) (hf : ff + 40000 < 2 ^ 62) (K : ∀ h' N', NB h' b A N' (ff + 36000) W → ofr b 0 h N h' N' → wp SC 587 39 s 141 [(0, .ref b), (1, .int (i32 m)), (2, .long l)] [] h' Q) : wp SC 587 39 (s + 1) 126 [(0, .ref b), (1, .int (i32 m)), (2, .long l)] [] h Q :=
  L587_126 (s1 := 0 + 1) (s2 := s) (by omega) (wp_up (d := 37) (by omega) (Nat.le_refl _) (cs12x (Or.inl (by decide)) h b N _ 0 _ z hf (fun h2 N2 z2 y => ret2 (B587_134 (fun g => absurd rfl g) (fun _ => K h2 N2 z2 y)))))
theorem rf141 {m s : Nat} {l : Int64} (z : NB h b A N ff W) (hf : ff + 40000 < 2 ^ 62) (K : ∀ h' N', NB h' b A N' (ff + 36000) W → ofr b 0 h N h' N' → wp SC 587 39 s 156 [(0, .ref b), (1, .int (i32 m)), (2, .long l)] [] h' Q) : wp SC 587 39 (s + 1) 141 [(0, .ref b), (1, .int (i32 m)), (2, .long l)] [] h Q :=
  L587_141 (s1 := 0 + 1) (s2 := s) (by omega) (wp_up (d := 37) (by omega) (Nat.le_refl _) (cs13x (Or.inl (by decide)) h b N _ 0 _ z hf (fun h2 N2 z2 y => ret2 (B587_149 (fun g => absurd rfl g) (fun _ => K h2 N2 z2 y)))))
theorem rf156 {m s : Nat} {l : Int64} (z : NB h b A N ff W) (hf : ff + 40000 < 2 ^ 62) (K : ∀ h' N', NB h' b A N' (ff + 36000) W → ofr b 0 h N h' N' → wp SC 587 39 s 172 [(0, .ref b), (1, .int (i32 m)), (2, .long l)] [] h' Q) : wp SC 587 39 (s + 1) 156 [(0, .ref b), (1, .int (i32 m)), (2, .long l)] [] h Q :=
  L587_156 (s1 := 0 + 1) (s2 := s) (by omega) (wp_up (d := 37) (by omega) (Nat.le_refl _) (cs13b (n := 0) (by decide) (Or.inr (by decide)) h b N _ 0 _ z hf (fun h2 N2 z2 y => ret2 (B587_165 (fun g => absurd rfl g) (fun _ => K h2 N2 z2 y)))))
theorem rf172 {m s : Nat} {l : Int64} (z : NB h b A N ff W) (hf : ff + 40000 < 2 ^ 62) (K : ∀ h' N', NB h' b A N' (ff + 36000) W → ofr b 0 h N h' N' → wp SC 587 39 s 187 [(0, .ref b), (1, .int (i32 m)), (2, .long l)] [] h' Q) : wp SC 587 39 (s + 1) 172 [(0, .ref b), (1, .int (i32 m)), (2, .long l)] [] h Q :=
  L587_172 (s1 := 0 + 1) (s2 := s) (by omega) (wp_up (d := 37) (by omega) (Nat.le_refl _) (cs14x (Or.inl (by decide)) h b N _ 0 _ z hf (fun h2 N2 z2 y => ret2 (B587_180 (fun g => absurd rfl g) (fun _ => K h2 N2 z2 y)))))
theorem rf187 {m s : Nat} {l : Int64} (z : NB h b A N ff W) (hf : ff + 40000 < 2 ^ 62) (K : ∀ h' N', NB h' b A N' (ff + 36000) W → ofr b 0 h N h' N' → wp SC 587 39 s 202 [(0, .ref b), (1, .int (i32 m)), (2, .long l)] [] h' Q) : wp SC 587 39 (s + 1) 187 [(0, .ref b), (1, .int (i32 m)), (2, .long l)] [] h Q :=
  L587_187 (s1 := 0 + 1) (s2 := s) (by omega) (wp_up (d := 37) (by omega) (Nat.le_refl _) (cs16x (Or.inl (by decide)) h b N _ 0 _ z hf (fun h2 N2 z2 y => ret2 (B587_195 (fun g => absurd rfl g) (fun _ => K h2 N2 z2 y)))))
theorem rf202 {m s : Nat} {l : Int64} (z : NB h b A N ff W) (hf : ff + 40000 < 2 ^ 62) (K : ∀ h' N', NB h' b A N' (ff + 36000) W → ofr b 0 h N h' N' → wp SC 587 39 s 218 [(0, .ref b), (1, .int (i32 m)), (2, .long l)] [] h' Q) : wp SC 587 39 (s + 1) 202 [(0, .ref b), (1, .int (i32 m)), (2, .long l)] [] h Q :=
  L587_202 (s1 := 0 + 1) (s2 := s) (by omega) (wp_up (d := 37) (by omega) (Nat.le_refl _) (cs17x (Or.inr (Or.inl (by decide))) h b N _ 0 _ z hf (fun h2 N2 z2 y => ret2 (B587_211 (fun g => absurd rfl g) (fun _ => K h2 N2 z2 y)))))
theorem rf218 {m s : Nat} {l : Int64} (hi : inv1 A bh) (z : NB h b A N ff W) (hf : ff + 40000 < 2 ^ 62) (K : ∀ h' N', NB h' b A N' (ff + 36000) W → ofr b 0 h N h' N' → wp SC 587 39 s 234 [(0, .ref b), (1, .int (i32 m)), (2, .long l)] [] h' Q) : wp SC 587 39 (s + 1) 218 [(0, .ref b), (1, .int (i32 m)), (2, .long l)] [] h Q :=
  L587_218 (s1 := 0 + 1) (s2 := s) (by omega) (wp_up (d := 37) (by omega) (Nat.le_refl _) (cs19x (Or.inl (Or.inr (i9_bl hi))) h b N _ 0 _ z hf (fun h2 N2 z2 y => ret2 (B587_227 (fun g => absurd rfl g) (fun _ => K h2 N2 z2 y)))))
theorem rf234 {m s : Nat} {l : Int64} (hi : inv1 A bh) (z : NB h b A N ff W) (hf : ff + 40000 < 2 ^ 62) (K : ∀ h' N', NB h' b A N' (ff + 36000) W → ofr b 0 h N h' N' → wp SC 587 39 s 250 [(0, .ref b), (1, .int (i32 m)), (2, .long l)] [] h' Q) : wp SC 587 39 (s + 1) 234 [(0, .ref b), (1, .int (i32 m)), (2, .long l)] [] h Q :=
  L587_234 (s1 := 0 + 1) (s2 := s) (by omega) (wp_up (d := 37) (by omega) (Nat.le_refl _) (cs20x (Or.inr (i9_bl hi)) h b N _ 0 _ z hf (fun h2 N2 z2 y => ret2 (B587_243 (fun g => absurd rfl g) (fun _ => K h2 N2 z2 y)))))
theorem rf262 {m s : Nat} {l : Int64} (z : NB h b A N ff W) (hf : ff + 40000 < 2 ^ 62) (K : ∀ h' N', NB h' b A N' (ff + 36000) W → ofr b 0 h N h' N' → wp SC 587 39 s 277 [(0, .ref b), (1, .int (i32 m)), (2, .long l)] [] h' Q) : wp SC 587 39 (s + 1) 262 [(0, .ref b), (1, .int (i32 m)), (2, .long l)] [] h Q :=
  L587_262 (s1 := 0 + 1) (s2 := s) (by omega) (wp_up (d := 37) (by omega) (Nat.le_refl _) (cs21x (Or.inl (by decide)) h b N _ 0 _ z hf (fun h2 N2 z2 y => ret2 (B587_270 (fun g => absurd rfl g) (fun _ => K h2 N2 z2 y)))))
theorem rf277 {m s : Nat} {l : Int64} (z : NB h b A N ff W) (hf : ff + 40000 < 2 ^ 62) (K : ∀ h' N', NB h' b A N' (ff + 36000) W → ofr b 0 h N h' N' → wp SC 587 39 s 293 [(0, .ref b), (1, .int (i32 m)), (2, .long l)] [] h' Q) : wp SC 587 39 (s + 1) 277 [(0, .ref b), (1, .int (i32 m)), (2, .long l)] [] h Q :=
  L587_277 (s1 := 0 + 1) (s2 := s) (by omega) (wp_up (d := 37) (by omega) (Nat.le_refl _) (cs22x (Or.inr (Or.inl (by decide))) h b N _ 0 _ z hf (fun h2 N2 z2 y => ret2 (B587_286 (fun g => absurd rfl g) (fun _ => K h2 N2 z2 y)))))
theorem rf293 {m s : Nat} {l : Int64} (z : NB h b A N ff W) (hf : ff + 40000 < 2 ^ 62) (K : ∀ h' N', NB h' b A N' (ff + 36000) W → ofr b 0 h N h' N' → wp SC 587 39 s 308 [(0, .ref b), (1, .int (i32 m)), (2, .long l)] [] h' Q) : wp SC 587 39 (s + 1) 293 [(0, .ref b), (1, .int (i32 m)), (2, .long l)] [] h Q :=
  L587_293 (s1 := 0 + 1) (s2 := s) (by omega) (wp_up (d := 37) (by omega) (Nat.le_refl _) (cs23x (Or.inl (by decide)) h b N _ 0 _ z hf (fun h2 N2 z2 y => ret2 (B587_301 (fun g => absurd rfl g) (fun _ => K h2 N2 z2 y)))))
theorem rf308 {m s : Nat} {l : Int64} (z : NB h b A N ff W) (hf : ff + 40000 < 2 ^ 62) (K : ∀ h' N', NB h' b A N' (ff + 36000) W → ofr b 0 h N h' N' → wp SC 587 39 s 324 [(0, .ref b), (1, .int (i32 m)), (2, .long l)] [] h' Q) : wp SC 587 39 (s + 1) 308 [(0, .ref b), (1, .int (i32 m)), (2, .long l)] [] h Q :=
  L587_308 (s1 := 0 + 1) (s2 := s) (by omega) (wp_up (d := 37) (by omega) (Nat.le_refl _) (cs24x (Or.inr (Or.inl (by decide))) h b N _ 0 _ z hf (fun h2 N2 z2 y => ret2 (B587_317 (fun g => absurd rfl g) (fun _ => K h2 N2 z2 y)))))
theorem rf324 {m s : Nat} {l : Int64} (z : NB h b A N ff W) (hf : ff + 40000 < 2 ^ 62) (K : ∀ h' N', NB h' b A N' (ff + 36000) W → ofr b 0 h N h' N' → wp SC 587 39 s 339 [(0, .ref b), (1, .int (i32 m)), (2, .long l)] [] h' Q) : wp SC 587 39 (s + 1) 324 [(0, .ref b), (1, .int (i32 m)), (2, .long l)] [] h Q :=
  L587_324 (s1 := 0 + 1) (s2 := s) (by omega) (wp_up (d := 37) (by omega) (Nat.le_refl _) (cs25x (Or.inl (by decide)) h b N _ 0 _ z hf (fun h2 N2 z2 y => ret2 (B587_332 (fun g => absurd rfl g) (fun _ => K h2 N2 z2 y)))))
theorem rf339 {m s : Nat} {l : Int64} (z : NB h b A N ff W) (hf : ff + 40000 < 2 ^ 62) (K : ∀ h' N', NB h' b A N' (ff + 36000) W → ofr b 0 h N h' N' → wp SC 587 39 s 355 [(0, .ref b), (1, .int (i32 m)), (2, .long l)] [] h' Q) : wp SC 587 39 (s + 1) 339 [(0, .ref b), (1, .int (i32 m)), (2, .long l)] [] h Q :=
  L587_339 (s1 := 0 + 1) (s2 := s) (by omega) (wp_up (d := 37) (by omega) (Nat.le_refl _) (cs26x (Or.inr (Or.inl (by decide))) h b N _ 0 _ z hf (fun h2 N2 z2 y => ret2 (B587_348 (fun g => absurd rfl g) (fun _ => K h2 N2 z2 y)))))
theorem rf355 {m s : Nat} {l : Int64} (z : NB h b A N ff W) (hf : ff + 40000 < 2 ^ 62) (K : ∀ h' N', NB h' b A N' (ff + 36000) W → ofr b 0 h N h' N' → wp SC 587 39 s 370 [(0, .ref b), (1, .int (i32 m)), (2, .long l)] [] h' Q) : wp SC 587 39 (s + 1) 355 [(0, .ref b), (1, .int (i32 m)), (2, .long l)] [] h Q :=
  L587_355 (s1 := 0 + 1) (s2 := s) (by omega) (wp_up (d := 37) (by omega) (Nat.le_refl _) (cs27x (Or.inl (by decide)) h b N _ 0 _ z hf (fun h2 N2 z2 y => ret2 (B587_363 (fun g => absurd rfl g) (fun _ => K h2 N2 z2 y)))))
theorem rf370 {m s : Nat} {l : Int64} (z : NB h b A N ff W) (hf : ff + 40000 < 2 ^ 62) (K : ∀ h' N', NB h' b A N' (ff + 36000) W → ofr b 0 h N h' N' → wp SC 587 39 s 386 [(0, .ref b), (1, .int (i32 m)), (2, .long l)] [] h' Q) : wp SC 587 39 (s + 1) 370 [(0, .ref b), (1, .int (i32 m)), (2, .long l)] [] h Q :=
  L587_370 (s1 := 0 + 1) (s2 := s) (by omega) (wp_up (d := 37) (by omega) (Nat.le_refl _) (cs28x (Or.inr (Or.inl (by decide))) h b N _ 0 _ z hf (fun h2 N2 z2 y => ret2 (B587_379 (fun g => absurd rfl g) (fun _ => K h2 N2 z2 y)))))
theorem rf386 {m s : Nat} {l : Int64} (z : NB h b A N ff W) (hf : ff + 40000 < 2 ^ 62) (K : ∀ h' N', NB h' b A N' (ff + 36000) W → ofr b 0 h N h' N' → wp SC 587 39 s 401 [(0, .ref b), (1, .int (i32 m)), (2, .long l)] [] h' Q) : wp SC 587 39 (s + 1) 386 [(0, .ref b), (1, .int (i32 m)), (2, .long l)] [] h Q :=
  L587_386 (s1 := 0 + 1) (s2 := s) (by omega) (wp_up (d := 37) (by omega) (Nat.le_refl _) (cs29x (Or.inl (by decide)) h b N _ 0 _ z hf (fun h2 N2 z2 y => ret2 (B587_394 (fun g => absurd rfl g) (fun _ => K h2 N2 z2 y)))))
theorem rfA {m s : Nat} {l : Int64} (hi : inv1 A bh) (z : NB h b A N ff W) (hf : ff + 328000 < 2 ^ 62) (K : ∀ h' N', NB h' b A N' (ff + 288000) W → ofr b 0 h N h' N' → wp SC 587 39 s 126 [(0, .ref b), (1, .int (i32 m)), (2, .long l)] [] h' Q) : wp SC 587 39 (s + 8) 5 [(0, .ref b), (1, .int (i32 m))] [.long l] h Q := by
  refine rf5 (s := s + 7) z (by omega) (fun h1 N1 z1 o1 => ?_)
  refine rf20 (s := s + 6) z1 (by omega) (fun h2 N2 z2 o2 => ?_)
  refine rf34 (s := s + 5) z2 (by omega) (fun h3 N3 z3 o3 => ?_)
  refine rf48 (s := s + 4) z3 (by omega) (fun h4 N4 z4 o4 => ?_)
  refine rf64 (s := s + 3) z4 (by omega) (fun h5 N5 z5 o5 => ?_)
  refine rf79 (s := s + 2) z5 (by omega) (fun h6 N6 z6 o6 => ?_)
  refine rf94 (s := s + 1) z6 (by omega) (fun h7 N7 z7 o7 => ?_)
  refine rf110 (s := s + 0) z7 (by omega) (fun h8 N8 z8 o8 => ?_)
  exact K h8 N8 (NB_up z8 (by omega)) (ofr_tr (ofr_tr (ofr_tr (ofr_tr (ofr_tr (ofr_tr (ofr_tr o1 o2 (Nat.le_refl _)) o3 (Nat.le_refl _)) o4 (Nat.le_refl _)) o5 (Nat.le_refl _)) o6 (Nat.le_refl _)) o7 (Nat.le_refl _)) o8 (Nat.le_refl _))
theorem rfB {m s : Nat} {l : Int64} (hi : inv1 A bh) (z : NB h b A N ff W) (hf : ff + 328000 < 2 ^ 62) (K : ∀ h' N', NB h' b A N' (ff + 288000) W → ofr b 0 h N h' N' → wp SC 587 39 s 250 [(0, .ref b), (1, .int (i32 m)), (2, .long l)] [] h' Q) : wp SC 587 39 (s + 8) 126 [(0, .ref b), (1, .int (i32 m)), (2, .long l)] [] h Q := by
  refine rf126 (s := s + 7) z (by omega) (fun h1 N1 z1 o1 => ?_)
  refine rf141 (s := s + 6) z1 (by omega) (fun h2 N2 z2 o2 => ?_)
  refine rf156 (s := s + 5) z2 (by omega) (fun h3 N3 z3 o3 => ?_)
  refine rf172 (s := s + 4) z3 (by omega) (fun h4 N4 z4 o4 => ?_)
  refine rf187 (s := s + 3) z4 (by omega) (fun h5 N5 z5 o5 => ?_)
  refine rf202 (s := s + 2) z5 (by omega) (fun h6 N6 z6 o6 => ?_)
  refine rf218 (s := s + 1) hi z6 (by omega) (fun h7 N7 z7 o7 => ?_)
  refine rf234 (s := s + 0) hi z7 (by omega) (fun h8 N8 z8 o8 => ?_)
  exact K h8 N8 (NB_up z8 (by omega)) (ofr_tr (ofr_tr (ofr_tr (ofr_tr (ofr_tr (ofr_tr (ofr_tr o1 o2 (Nat.le_refl _)) o3 (Nat.le_refl _)) o4 (Nat.le_refl _)) o5 (Nat.le_refl _)) o6 (Nat.le_refl _)) o7 (Nat.le_refl _)) o8 (Nat.le_refl _))
theorem rfC {m s : Nat} {l : Int64} (hi : inv1 A bh) (z : NB h b A N ff W) (hf : ff + 364000 < 2 ^ 62) (K : ∀ h' N', NB h' b A N' (ff + 324000) W → ofr b 0 h N h' N' → wp SC 587 39 s 401 [(0, .ref b), (1, .int (i32 m)), (2, .long l)] [] h' Q) : wp SC 587 39 (s + 9) 262 [(0, .ref b), (1, .int (i32 m)), (2, .long l)] [] h Q := by
  refine rf262 (s := s + 8) z (by omega) (fun h1 N1 z1 o1 => ?_)
  refine rf277 (s := s + 7) z1 (by omega) (fun h2 N2 z2 o2 => ?_)
  refine rf293 (s := s + 6) z2 (by omega) (fun h3 N3 z3 o3 => ?_)
  refine rf308 (s := s + 5) z3 (by omega) (fun h4 N4 z4 o4 => ?_)
  refine rf324 (s := s + 4) z4 (by omega) (fun h5 N5 z5 o5 => ?_)
  refine rf339 (s := s + 3) z5 (by omega) (fun h6 N6 z6 o6 => ?_)
  refine rf355 (s := s + 2) z6 (by omega) (fun h7 N7 z7 o7 => ?_)
  refine rf370 (s := s + 1) z7 (by omega) (fun h8 N8 z8 o8 => ?_)
  refine rf386 (s := s + 0) z8 (by omega) (fun h9 N9 z9 o9 => ?_)
  exact K h9 N9 (NB_up z9 (by omega)) (ofr_tr (ofr_tr (ofr_tr (ofr_tr (ofr_tr (ofr_tr (ofr_tr (ofr_tr o1 o2 (Nat.le_refl _)) o3 (Nat.le_refl _)) o4 (Nat.le_refl _)) o5 (Nat.le_refl _)) o6 (Nat.le_refl _)) o7 (Nat.le_refl _)) o8 (Nat.le_refl _)) o9 (Nat.le_refl _))
theorem c587 {m : Nat} (hi : inv1 A bh) (hm : m ≤ 12) (z : NB h b A N ff W) (hf : ff + 8000000 < 2 ^ 62) (K : ∀ h' N' ff', ff' ≤ ff + 7200000 → NB h' b A N' ff' W → ofr b 0 h N h' N' → Q 1 (.int 1) h') : wp SC 587 39 (q + 25 + 14 * m) 0 [(0, .ref b), (1, .int (i32 m))] [] h Q := by
  obtain ⟨f0, e0⟩ : ∃ f, f = ff + 3100000 := ⟨_, rfl⟩
  obtain ⟨f1, e1⟩ : ∃ f, f = f0 + 288000 := ⟨_, rfl⟩
  obtain ⟨f2, e2⟩ : ∃ f, f = f1 + 288000 := ⟨_, rfl⟩
  obtain ⟨f3, e3⟩ : ∃ f, f = f2 + 324000 := ⟨_, rfl⟩
  obtain ⟨f4, e4⟩ : ∃ f, f = f3 + 3100000 := ⟨_, rfl⟩
  refine L587_0 (s1 := 0 + 7 * m) (s2 := q + 7 * m + 9 + 8 + 8) (by omega) (c578 hi hm z (by omega) (fun h0 N0 z0 o0 => ret2 ?_))
  have z0 : NB h0 b A N0 f0 W := NB_up z0 (by omega)
  refine rfA (s := q + 7 * m + 9 + 8) hi z0 (by omega) (fun h1 N1 z1 o1 => ?_)
  have z1 : NB h1 b A N1 f1 W := NB_up z1 (by omega)
  refine rfB (s := q + 7 * m + 9) hi z1 (by omega) (fun h2 N2 z2 o2 => ?_)
  have z2 : NB h2 b A N2 f2 W := NB_up z2 (by omega)
  refine B587_250 (B587_255 (fun g => absurd g (by decide)) (fun _ => ?_))
  refine rfC (s := q + 7 * m) hi z2 (by omega) (fun h3 N3 z3 o3 => ?_)
  have z3 : NB h3 b A N3 f3 W := NB_up z3 (by omega)
  exact L587_401 (s1 := 0 + 7 * m) (s2 := q) (by omega) (c578 hi hm z3 (by omega) (fun h9 N9 z9 y => ret2 (B587_406 (fun g => absurd rfl g) (fun _ => B587_411 (B587_416 (Or.inr rfl) (K h9 N9 f4 (by omega) (NB_up z9 (by omega)) (ofr_tr o0 (ofr_tr o1 (ofr_tr o2 (ofr_tr o3 y (Nat.le_refl _)) (Nat.le_refl _)) (Nat.le_refl _)) (Nat.le_refl _))))))))
end RF
