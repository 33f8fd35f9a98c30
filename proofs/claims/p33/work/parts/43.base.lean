/-! Small numbers as ints; the heap behind a write; what is kept. -/
section I3
theorem i3_toInt {a : Nat} (h : a < 2147483648) : (i32 a).toInt = (a : Int) := Int32.toInt_ofNat_of_lt h
theorem i3_lt {a b : Nat} (ha : a < 2147483648) (hb : b < 2147483648) : i32 a < i32 b ↔ a < b := by
  rw [Int32.lt_iff_toInt_lt, i3_toInt ha, i3_toInt hb]
  omega
theorem i3_eq {a b : Nat} (ha : a < 2147483648) (hb : b < 2147483648) : i32 a = i32 b ↔ a = b := by
  rw [← Int32.toInt_inj, i3_toInt ha, i3_toInt hb]
  omega
theorem i3_pos {a : Nat} (ha : a < 2147483648) : (0 : Int32) < i32 a ↔ 0 < a := i3_lt (a := 0) (by omega) ha
theorem i3_neg {a : Nat} (ha : a < 2147483648) : ¬ i32 a < 0 := fun h => by
  have := (i3_lt (b := 0) ha (by omega)).mp h
  omega
theorem i3_zero {a : Nat} (ha : a < 2147483648) : i32 a = 0 ↔ a = 0 := i3_eq (b := 0) ha (by omega)
theorem i3_add (a b : Nat) : i32 a + i32 b = i32 (a + b) := by
  show Int32.ofNat a + Int32.ofNat b = Int32.ofNat (a + b)
  rw [Int32.ofNat_add]
theorem i3_sub {a b : Nat} (h : b ≤ a) : i32 a - i32 b = i32 (a - b) := by
  have e : a = (a - b) + b := by omega
  rw [show i32 a = i32 (a - b) + i32 b by rw [i3_add, ← e]]
  exact Int32.add_sub_cancel _ _
theorem i3_mul (a b : Nat) : i32 a * i32 b = i32 (a * b) := by
  show Int32.ofNat a * Int32.ofNat b = Int32.ofNat (a * b)
  rw [Int32.ofNat_mul]
theorem i3_bv (a : Nat) : (i32 a).toBitVec = BitVec.ofNat 32 a := rfl
theorem i3_or (a b : Nat) : i32 a ||| i32 b = i32 (a ||| b) := by
  apply Int32.toBitVec_inj.mp
  rw [Int32.toBitVec_or, i3_bv, i3_bv, i3_bv]
  apply BitVec.eq_of_toNat_eq
  simp [Nat.or_mod_two_pow (n := 32)]
theorem i3_and (a b : Nat) : i32 a &&& i32 b = i32 (a &&& b) := by
  apply Int32.toBitVec_inj.mp
  rw [Int32.toBitVec_and, i3_bv, i3_bv, i3_bv]
  apply BitVec.eq_of_toNat_eq
  simp [Nat.and_mod_two_pow (n := 32)]
theorem i3_31 {k : Nat} (hk : k < 32) : i32 k &&& 31 = i32 k := by
  rw [show (31 : Int32) = i32 31 from rfl, i3_and, show (31 : Nat) = 2 ^ 5 - 1 from rfl, Nat.and_two_pow_sub_one_eq_mod, Nat.mod_eq_of_lt hk]
theorem i3_shl {k : Nat} (hk : k < 31) : i32 1 <<< (i32 k &&& 31) = i32 (2 ^ k) := by
  have : ∀ k : Nat, k < 31 → i32 1 <<< (i32 k &&& 31) = i32 (2 ^ k) := by decide
  exact this k hk
theorem i3_shr {m k : Nat} (hm : m < 2147483648) (hk : k < 32) : i32 m >>> (i32 k &&& 31) = i32 (m >>> k) := by
  rw [i3_31 hk]
  apply Int32.toInt_inj.mp
  have h1 : m >>> k < 2147483648 := Nat.lt_of_le_of_lt (Nat.shiftRight_le m k) hm
  have h2 : ∀ k : Nat, k < 32 → ((i32 k).toBitVec.smod 32).toNat = k := by decide
  rw [i3_toInt h1]
  show (i32 m >>> i32 k).toBitVec.toInt = _
  rw [Int32.toBitVec_shiftRight, BitVec.sshiftRight_eq', h2 k hk, BitVec.toInt_sshiftRight]
  show (i32 m).toInt >>> k = _
  rw [i3_toInt hm]
  rfl
theorem i3_bit1 (m : Nat) : m &&& 1 = if m.testBit 0 then 1 else 0 := by
  rw [Nat.and_one_is_mod, Nat.testBit_zero]
  rcases Nat.mod_two_eq_zero_or_one m with h | h <;> rw [h] <;> rfl
/-- a bit, as it is asked for: x >> k & 1 -/
theorem i3_bit {m k : Nat} (hm : m < 2147483648) (hk : k < 32) : i32 m >>> (i32 k &&& 31) &&& i32 1 = if m.testBit k then i32 1 else i32 0 := by
  rw [i3_shr hm hk, i3_and, i3_bit1]
  have : (m >>> k).testBit 0 = m.testBit k := by rw [Nat.testBit_shiftRight]; rfl
  rw [this]
  split <;> rfl
theorem i3_xor (a b : Nat) : i32 a ^^^ i32 b = i32 (a ^^^ b) := by
  apply Int32.toBitVec_inj.mp
  rw [Int32.toBitVec_xor, i3_bv, i3_bv, i3_bv]
  apply BitVec.eq_of_toNat_eq
  simp [Nat.xor_mod_two_pow (n := 32)]
/-- a without b's bits -/
def nb_wo (a b : Nat) : Nat := a ^^^ (a &&& b)
theorem nb_wo_bit (a b k : Nat) : (nb_wo a b).testBit k = (a.testBit k && !b.testBit k) := by
  unfold nb_wo
  rw [Nat.testBit_xor, Nat.testBit_and]
  cases a.testBit k <;> cases b.testBit k <;> rfl
theorem i3_wo (a b : Nat) : i32 a &&& (i32 b ^^^ (-1)) = i32 (nb_wo a b) := by
  apply Int32.toBitVec_inj.mp
  unfold nb_wo
  rw [← i3_xor, ← i3_and, Int32.toBitVec_and, Int32.toBitVec_xor, Int32.toBitVec_xor, Int32.toBitVec_and]
  have : (-1 : Int32).toBitVec = BitVec.allOnes 32 := by decide
  rw [this]
  apply BitVec.eq_of_getLsbD_eq
  intro i hi
  simp only [BitVec.getLsbD_and, BitVec.getLsbD_xor, BitVec.getLsbD_allOnes, hi, decide_true]
  cases (i32 a).toBitVec.getLsbD i <;> cases (i32 b).toBitVec.getLsbD i <;> rfl
end I3
section HG
variable {h : re_H} {a b : Nat} {c c' : re_C}
theorem hw_1 (h : re_H) (a : Nat) (c : re_C) : (re_hw h a c).1 = h.1 := rfl
theorem hq_1 (h : re_H) (c : re_C) : (re_hq h c).1 = h.1 + 1 := rfl
theorem hg_lt (e : re_hg h a = some c) : a < h.1 := (re_hg_lt e).1
theorem hw_s (ha : a < h.1) : re_hg (re_hw h a c) a = some c := by
  rw [re_hg_of (h := re_hw h a c) ha]
  exact re_hfu_self _ _ _
theorem hw_n (hne : ¬ b = a) : re_hg (re_hw h a c) b = re_hg h b := by
  unfold re_hg
  show (bif Nat.blt b h.1 then re_hf9 (re_hu9 h.2 a c) b else none) = _
  rw [re_hfu_ne _ _ _ _ (fun z => hne z.symm)]
theorem hw_g (ha : a < h.1) : re_hg (re_hw h a c) b = if b = a then some c else re_hg h b := by
  split
  next e => subst e; exact hw_s ha
  next e => exact hw_n e
theorem hq_s : re_hg (re_hq h c) h.1 = some c := by
  rw [re_hg_of (h := re_hq h c) (Nat.lt_succ_self _)]
  exact re_hfu_self _ _ _
theorem hq_o (hb : b < h.1) : re_hg (re_hq h c) b = re_hg h b := by
  rw [re_hg_of (h := re_hq h c) (Nat.lt_succ_of_lt hb), re_hg_of hb]
  exact re_hfu_ne _ _ _ _ (by omega)
theorem hq_k {c' : re_C} (e : re_hg h b = some c') : re_hg (re_hq h c) b = some c' := by
  rw [hq_o (hg_lt e)]
  exact e
end HG
/-- h' has all that h has but S, and more -/
def kp (S : Nat → Prop) (h h' : re_H) : Prop := h.1 ≤ h'.1 ∧ ∀ a, a < h.1 → ¬ S a → re_hg h' a = re_hg h a
theorem kp_rf {S : Nat → Prop} {h : re_H} : kp S h h := ⟨Nat.le_refl _, fun _ _ _ => rfl⟩
theorem kp_tr {S : Nat → Prop} {h h1 h2 : re_H} (k1 : kp S h h1) (k2 : kp S h1 h2) : kp S h h2 :=
  ⟨Nat.le_trans k1.1 k2.1, fun a ha hs => (k2.2 a (Nat.lt_of_lt_of_le ha k1.1) hs).trans (k1.2 a ha hs)⟩
theorem kp_mono {S S' : Nat → Prop} {h h1 : re_H} (k : kp S h h1) (hs : ∀ a, a < h.1 → S a → S' a) : kp S' h h1 :=
  ⟨k.1, fun a ha hn => k.2 a ha (fun z => hn (hs a ha z))⟩
theorem kp_hw {S : Nat → Prop} {h : re_H} {a : Nat} {c : re_C} (hs : S a) : kp S h (re_hw h a c) :=
  ⟨Nat.le_refl _, fun b _ hb => hw_n (fun e => hb (e ▸ hs))⟩
theorem kp_hq {S : Nat → Prop} {h : re_H} {c : re_C} : kp S h (re_hq h c) := ⟨Nat.le_succ _, fun _ hb _ => hq_o hb⟩
theorem kp_g {S : Nat → Prop} {h h' : re_H} {a : Nat} {c : re_C} (k : kp S h h') (hs : ¬ S a) (e : re_hg h a = some c) : re_hg h' a = some c := by
  rw [k.2 a (hg_lt e) hs]
  exact e
/-- exprs stay -/
def xk (h h' : re_H) : Prop := ∀ a w, re_hg h a = some (9, w) → re_hg h' a = some (9, w)
theorem xk_rf {h : re_H} : xk h h := fun _ _ e => e
theorem xk_tr {h h1 h2 : re_H} (k1 : xk h h1) (k2 : xk h1 h2) : xk h h2 := fun a w e => k2 a w (k1 a w e)
theorem xk_hw {h : re_H} {a t : Nat} {c : re_C} {w : List Value} (e : re_hg h a = some (t, w)) (ht : ¬ t = 9) : xk h (re_hw h a c) := fun b v g => by
  rw [hw_n (fun z => by subst z; rw [g] at e; cases e; exact ht rfl)]
  exact g
theorem xk_hq {h : re_H} {c : re_C} : xk h (re_hq h c) := fun _ _ g => hq_k g
theorem xk_kp {S : Nat → Prop} {h h' : re_H} (k : kp S h h') (hs : ∀ a, S a → ∀ w, ¬ re_hg h a = some (9, w)) : xk h h' := fun a w e => kp_g k (fun z => hs a z w e) e
