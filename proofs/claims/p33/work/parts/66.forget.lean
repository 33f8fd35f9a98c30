/-! Sheet: forgetting. -/
def fgt (RR : Nat → Rs) (i : Nat) : Nat → Rs := fun j => if j = i then (-1, 0, [], [], rI (RR i), rS (RR i), rW (RR i)) else RR j
def fga (RR : Nat → Rs) (st0 : Nat) : Nat → Nat → Rs
  | 0 => RR
  | n + 1 => fgt (fga RR st0 n) (st0 + n)
section FG
variable {SC : List Value} {d q : Nat} {h : re_H} {Q : Nat → Value → re_H → Prop} {sh st0 b rid : Nat} {V : Vr} {RR : Nat → Rs} {E : Ev} {I : Nat → Int64} {sd : Int32} {N F : List Nat} {ho la ff : Nat}
theorem c521 {c : Nat} (hc : c < 12) (ys : bsh b sh st0) (z : bk h b E V I sd RR N F ho la ff) (K : ∀ h', bk h' b E V I sd (fgt RR (st0 + c)) N F ho la ff → brn b rid h E N h' E N → Q 0 .null h') : wp SC 521 (d + 2) q 0 [(0, .ref sh), (1, .int (i32 c))] [] h Q := by
  obtain ⟨zs, h0⟩ := bsh_c ys z
  have zr := z.2.1.2 (st0 + c) (by omega)
  exact B521_0 zs rfl (c515 zs z.2.1 (by omega) (ret3 (B521_5 (rs_0 zr) rfl (c332 (sth_hld z.2.2.1) zr (fun h' zr' mm hk => ret0 (B521_8 (K h' (bk_rs (by omega) z mm zr') (brn_rs (i := st0 + c) (by omega) mm))))))))
theorem c523 (ys : bsh b sh st0) (z : bk h b E V I sd RR N F ho la ff) (K : ∀ h', bk h' b E V I sd (fga RR st0 12) N F ho la ff → brn b rid h E N h' E N → Q 0 .null h') : wp SC 523 (d + 2) q 0 [(0, .ref sh)] [] h Q := by
  have loop : ∀ (k n : Nat), n + k = 12 → ∀ h1, bk h1 b E V I sd (fga RR st0 n) N F ho la ff → brn b rid h E N h1 E N → wp SC 523 (d + 2) q 2 [(0, .ref sh), (1, .int (i32 n))] [] h1 Q := by
    intro k
    induction k with
    | zero =>
      intro n hn h1 z1 br
      cases (show n = 12 by omega)
      exact B523_2 (fun _ => B523_22 (K h1 z1 br)) (fun g => absurd ((i3_lt (by omega) (by omega)).mp g) (by omega))
    | succ k ih =>
      intro n hn h1 z1 br
      obtain ⟨zs, h0⟩ := bsh_c ys z1
      have zr := z1.2.1.2 (st0 + n) (by omega)
      refine B523_2 (fun g => absurd ((i3_lt (by omega) (by omega)).mpr (by omega)) g) (fun _ => ?_)
      refine B523_8 zs rfl (c515 zs z1.2.1 (by omega) (ret3 (B523_13 (rs_0 zr) rfl (c332 (sth_hld z1.2.2.1) zr (fun h' zr' mm hk => ret0 (B523_16 ?_))))))
      rw [i3_add]
      exact ih (n + 1) (by omega) h' (bk_rs (by omega) z1 mm zr') (brn_tr br (brn_rs (i := st0 + n) (by omega) mm))
  exact B523_0 (loop 12 0 rfl h z brn_rf)
end FG
