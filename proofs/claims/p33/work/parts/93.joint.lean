/-! Both notebooks. -/
def Wo : Nat := 147840
def Wt : Nat := 144000
/-- longs of small numbers -/
theorem lj_t {n : Nat} (h : n < 2147483648) : (i32 n).toInt64.toInt = (n : Int) := by rw [Int32.toInt_toInt64, i3_toInt h]
theorem lj_eq {a b : Nat} (ha : a < 2147483648) (hb : b < 2147483648) : (i32 a).toInt64 = (i32 b).toInt64 ↔ a = b := by
  rw [← Int64.toInt_inj, lj_t ha, lj_t hb]
  omega
theorem lj_lt {a b : Nat} (ha : a < 2147483648) (hb : b < 2147483648) : (i32 a).toInt64 < (i32 b).toInt64 ↔ a < b := by
  rw [Int64.lt_iff_toInt_lt, lj_t ha, lj_t hb]
  omega
theorem lj_0 : (0 : Int64) = (i32 0).toInt64 := by decide
theorem lj_pos {a : Nat} (ha : a < 2147483648) : (0 : Int64) < (i32 a).toInt64 ↔ 0 < a := by rw [lj_0]; exact lj_lt (by omega) ha
theorem lj_neg {a : Nat} (ha : a < 2147483648) : ¬ (i32 a).toInt64 < (0 : Int64) := by
  rw [lj_0, lj_lt ha (by omega)]; omega
theorem lj_OUT {a : Nat} (ha : a < 2147483648) : ¬ (i32 a).toInt64 = OUT9 := fun y => lj_neg ha (by rw [y]; decide)
theorem lj_NOT {a : Nat} (ha : a < 2147483648) : ¬ (i32 a).toInt64 = NOT9 := fun y => lj_neg ha (by rw [y]; decide)
theorem lj_BAD {a : Nat} (ha : a < 2147483648) : ¬ (i32 a).toInt64 = BAD9 := fun y => lj_neg ha (by rw [y]; decide)
theorem i3_div {a b : Nat} (ha : a < 2147483648) (hb : b < 2147483648) : i32 a / i32 b = i32 (a / b) := by
  apply Int32.toInt_inj.mp
  have h1 : a / b < 2147483648 := Nat.lt_of_le_of_lt (Nat.div_le_self a b) ha
  rw [i3_toInt h1, Int32.toInt_div, i3_toInt ha, i3_toInt hb]
  rw [← Int.ofNat_tdiv]
  obtain ⟨c, hc⟩ : ∃ c, c = a / b := ⟨_, rfl⟩
  rw [← hc] at h1 ⊢
  rw [Int.bmod_eq_of_le] <;> omega
theorem i3_mod {a b : Nat} (ha : a < 2147483648) (hb : b < 2147483648) : i32 a - i32 a / i32 b * i32 b = i32 (a % b) := by
  rw [i3_div ha hb, i3_mul, i3_sub (Nat.div_mul_le_self a b)]
  congr 1
  have := Nat.div_add_mod a b
  rw [Nat.mul_comm] at this
  omega
theorem ush1 (x : Int32) : ∃ v, v < 2147483648 ∧ (x.toUInt32 >>> ((i32 1).toUInt32 &&& Int32.toUInt32 31)).toInt32 = i32 v := by
  have e : (i32 1).toUInt32 &&& Int32.toUInt32 31 = 1 := by decide
  rw [e]
  refine ⟨x.toUInt32.toNat >>> 1, ?_, ?_⟩
  · have := x.toUInt32.toNat_lt
    rw [Nat.shiftRight_eq_div_pow]
    omega
  · apply Int32.toBitVec_inj.mp
    apply BitVec.eq_of_toNat_eq
    rw [i3_bv]
    show (x.toUInt32 >>> 1).toBitVec.toNat = _
    rw [UInt32.toBitVec_shiftRight]
    have h1 := x.toUInt32.toNat_lt
    have e2 : x.toUInt32.toNat = x.toBitVec.toNat := rfl
    rw [e2] at h1 ⊢
    simp [Nat.shiftRight_eq_div_pow]
    omega
section SM9
variable {SC : List Value} {d q : Nat} {h : re_H} {Q : Nat → Value → re_H → Prop}
theorem c577 {x : Int32} {k : Nat} (hk : 0 < k) (hk2 : k < 2147483648) (K : ∀ m, m < k → Q 1 (.int (i32 m)) h) : wp SC 577 d q 0 [(0, .int x), (1, .int (i32 k))] [] h Q := by
  obtain ⟨v, h1, h2⟩ := ush1 x
  refine B577_0 (fun y => by have := (i3_zero hk2).mp y; omega) ?_
  rw [h2, i3_mod h1 hk2]
  exact K _ (Nat.mod_lt _ hk)
theorem c576 {n : Nat} (hn : n < 2147483648) (hl : SC.length < 2147483648) (hS : ∀ i, i < SC.length → ∃ v : Int32, SC[i]? = some (.int v)) (K : ∀ x : Int32, Q 1 (.int x) h) : wp SC 576 d q 0 [(0, .retAddr 2), (1, .int (i32 n))] [] h Q := by
  refine B576_0 (fun _ => B576_12 (B576_19 (K _))) (fun g => ?_)
  have hlt := (i3_lt hn hl).mp g
  obtain ⟨v, hv⟩ := hS n hlt
  exact B576_6 ⟨n, rfl, hn, hv⟩ (B576_19 (K _))
end SM9
/-- both notebooks lie in the heap, and the law's row -/
def JH (h : re_H) (A A' : Nb) (N N' : List Nat) (ff zz : Nat) (ds : List Value) : Prop := NB h 0 A N ff Wo ∧ NB h 301 A' N' ff Wt ∧ (∀ x, x ∈ N → ¬ x ∈ N') ∧ re_hg h 602 = some (100, ds) ∧ h.1 ≤ 603 + N.length + N'.length + zz
section JO
variable {SC : List Value} {q : Nat} {h : re_H} {Q : Nat → Value → re_H → Prop} {A A' A1 A1' : Nb} {N N' : List Nat} {ff zz k s : Nat} {ds : List Value} {w x y : Int32} {ans : Int64}
theorem JH_o {h' : re_H} {N1 : List Nat} {ff' : Nat} (hff : ff ≤ ff') (z : JH h A A' N N' ff zz ds) (n1 : NB h' 0 A1 N1 ff' Wo) (o : ofr 0 k h N h' N1) : JH h' A1 A' N1 N' ff' (zz + k) ds := by
  obtain ⟨z1, z2, z3, z4, z5⟩ := z
  obtain ⟨y1, y2⟩ := NB_x z2 z1 (Or.inr (by omega)) (fun x hx hx' => z3 x hx' hx) o
  have hN : ¬ 602 ∈ N := fun y => by have := z1.2.2.2.2.1 602 y; omega
  exact ⟨n1, NB_up y1 (by omega), fun x hx hx' => y2 x hx' hx, (o.2.1 602 (hg_lt z4) (by omega) hN).trans z4, by have := o.2.2.2.1; omega⟩
theorem JH_t {h' : re_H} {N1 : List Nat} {ff' : Nat} (hff : ff ≤ ff') (z : JH h A A' N N' ff zz ds) (n1 : NB h' 301 A1 N1 ff' Wt) (o : ofr 301 k h N' h' N1) : JH h' A A1 N N1 ff' (zz + k) ds := by
  obtain ⟨z1, z2, z3, z4, z5⟩ := z
  obtain ⟨y1, y2⟩ := NB_x z1 z2 (Or.inl (by omega)) z3 o
  have hN : ¬ 602 ∈ N' := fun y => by have := z2.2.2.2.2.1 602 y; omega
  exact ⟨NB_up y1 (by omega), n1, y2, (o.2.1 602 (hg_lt z4) (by omega) hN).trans z4, by have := o.2.2.2.1; omega⟩
theorem call9 (z : JH h A A' N N' ff zz ds) (hf : ff + 40000 < 2 ^ 62) (c : CS SC w x y A Wo ans A1 k s) (K : ∀ h' N1, JH h' A1 A' N1 N' (ff + 36000) (zz + k) ds → Q 2 (.long ans) h') : wp SC 579 37 (q + s) 0 [(0, .ref 0), (1, .int w), (2, .int x), (3, .int y)] [] h Q :=
  c h 0 N ff q Q z.1 hf (fun h' N1 n1 o => K h' N1 (JH_o (by omega) z n1 o))
theorem calt9 (z : JH h A A' N N' ff zz ds) (hf : ff + 40000 < 2 ^ 62) (c : CS SC w x y A' Wt ans A1 k s) (K : ∀ h' N1, JH h' A A1 N N1 (ff + 36000) (zz + k) ds → Q 2 (.long ans) h') : wp SC 579 37 (q + s) 0 [(0, .ref 301), (1, .int w), (2, .int x), (3, .int y)] [] h Q :=
  c h 301 N' ff q Q z.2.1 hf (fun h' N1 n1 o => K h' N1 (JH_t (by omega) z n1 o))
theorem both9 (z : JH h A A' N N' ff zz ds) (hf : ff + 80000 < 2 ^ 62) (c : CS SC w x y A Wo ans A1 k s) (c' : CS SC w x y A' Wt ans A1' k s) (K : ∀ h' N1 N1', JH h' A1 A1' N1 N1' (ff + 72000) (zz + 2 * k) ds → Q 2 (.long ans) h') : wp SC 581 38 (q + 2 * s) 0 [(0, .ref 0), (1, .ref 301), (2, .int w), (3, .int x), (4, .int y)] [] h Q := by
  refine L581_0 (s1 := 0 + s) (s2 := q + s) (by omega) (call9 z (by omega) c (fun h1 N1 z1 => ret2 ?_))
  refine L581_8 (s1 := 0 + s) (s2 := q) (by omega) (calt9 z1 (by omega) c' (fun h2 N2 z2 => ret2 ?_))
  refine B581_20 (fun g => absurd rfl g) (fun _ => B581_24 (B581_32 (K h2 N1 N2 ?_)))
  have e1 : ff + 36000 + 36000 = ff + 72000 := by omega
  have e2 : zz + k + k = zz + 2 * k := by omega
  rw [e1, e2] at z2
  exact z2
end JO
