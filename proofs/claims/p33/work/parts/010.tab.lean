/-! Tables as trees of comparisons. -/
def re_br {α : Type} (k : Nat) (a b : Nat → α) (y : Nat) : α := bif Nat.blt y k then a y else b y
def re_lf {α : Type} (k : Nat) (a : Option α) (y : Nat) : Option α := bif Nat.beq y k then a else none
/-- the length of an instruction, 0 for those that tell their own -/
def re_len : Instr → Nat
  | .bipush _ | .iload _ | .lload _ | .aload _ | .istore _ | .lstore _ | .astore _ | .ldc _ | .newarray _ => 2
  | .sipush _ | .iinc _ _ | .if_acmp _ _ | .if_icmp _ _ | .ifCond _ _ | .ifnull _ | .ifnonnull _ | .goto _ | .ldc_w _ | .ldc2_w _ => 3
  | .getfield _ | .putfield _ | .getstatic _ | .new _ | .anewarray _ | .checkcast _ | .invokevirtual _ | .invokespecial _ | .invokestatic _ => 3
  | .invokeinterface _ _ => 5
  | .tableswitch _ _ _ _ | .lookupswitch _ _ => 0
  | _ => 1
theorem re_rng {n : Nat} {f : Nat → Bool} (h : (List.range n).all f = true) {k : Nat} (hk : k < n) : f k = true := List.all_eq_true.mp h k (List.mem_range.mpr hk)
def re_ckI (b : ByteArray) (f : Nat → Option Instr) (pc : Nat) : Bool := match f pc with
  | none => true
  | some i => match decode b pc with
    | .ok r => decide (r.1 = i) && (Nat.beq (re_len i) 0 || Nat.beq r.2 (re_len i))
    | .error _ => false
theorem re_ckI_ok {b : ByteArray} {f : Nat → Option Instr} {pc : Nat} {ins : Instr} (h : re_ckI b f pc = true) (hf : f pc = some ins) : ∃ len, decode b pc = .ok (ins, len) ∧ (re_len ins = 0 ∨ len = re_len ins) := by
  unfold re_ckI at h
  rw [hf] at h
  dsimp only at h
  split at h
  next r hr =>
    obtain ⟨i, len⟩ := r
    simp only [Bool.and_eq_true, Bool.or_eq_true, decide_eq_true_eq] at h
    obtain ⟨rfl, h2⟩ := h
    refine ⟨len, hr, ?_⟩
    rcases h2 with h2 | h2
    · exact Or.inl (Nat.eq_of_beq_eq_true h2)
    · exact Or.inr (Nat.eq_of_beq_eq_true h2)
  next => cases h
theorem re_big {n m : Nat} {f : Nat → Bool} (hn : Nat.ble n (50 * m) = true) (h : ∀ i, i < m → (List.range 50).all (fun k => f (k + 50 * i)) = true) : (List.range n).all f = true := by
  refine List.all_eq_true.mpr (fun k hk => ?_)
  have hk := List.mem_range.mp hk
  have hn := Nat.le_of_ble_eq_true hn
  have h1 := re_rng (h (k / 50) (Nat.div_lt_of_lt_mul (by omega))) (Nat.mod_lt k (by omega : 50 > 0))
  have h1 : f (k % 50 + 50 * (k / 50)) = true := h1
  rwa [Nat.mod_add_div] at h1
