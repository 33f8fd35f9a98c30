/-! What is told of the script: where its ints lie. -/
def rIv (cd : Jvm.ClassFile.Cond) (lo hi y : Int) : Option Bool := match cd with
  | .lt => if hi < y then some true else if y ≤ lo then some false else none
  | .ge => if hi < y then some false else if y ≤ lo then some true else none
  | .gt => if y < lo then some true else if hi ≤ y then some false else none
  | .le => if y < lo then some false else if hi ≤ y then some true else none
  | .eq => if y < lo ∨ hi < y then some false else none
  | .ne => if y < lo ∨ hi < y then some true else none
theorem rIv_lt {x y : Int32} {b : Bool} (h : (b = true ∧ x.toInt < y.toInt) ∨ (b = false ∧ y.toInt ≤ x.toInt)) : decide (x < y) = b := by
  rcases h with ⟨rfl, h⟩ | ⟨rfl, h⟩
  · exact decide_eq_true (Int32.lt_iff_toInt_lt.mpr h)
  · exact decide_eq_false (fun z => by have := Int32.lt_iff_toInt_lt.mp z; omega)
theorem rIv_le {x y : Int32} {b : Bool} (h : (b = true ∧ x.toInt ≤ y.toInt) ∨ (b = false ∧ y.toInt < x.toInt)) : decide (x ≤ y) = b := by
  rcases h with ⟨rfl, h⟩ | ⟨rfl, h⟩
  · exact decide_eq_true (Int32.le_iff_toInt_le.mpr h)
  · exact decide_eq_false (fun z => by have := Int32.le_iff_toInt_le.mp z; omega)
theorem rIv_ok {cd : Jvm.ClassFile.Cond} {lo hi : Int} {x y : Int32} {b : Bool} (h : rIv cd lo hi y.toInt = some b) (h1 : lo ≤ x.toInt) (h2 : x.toInt ≤ hi) : re_icond cd x y = b := by
  cases cd
  case eq =>
    simp only [rIv] at h
    split at h
    next hc =>
      cases h
      exact decide_eq_false (fun z => by subst z; omega)
    next => cases h
  case ne =>
    simp only [rIv] at h
    split at h
    next hc =>
      cases h
      exact decide_eq_true (fun z => by subst z; omega)
    next => cases h
  case lt =>
    simp only [rIv] at h
    refine rIv_lt ?_
    split at h
    next hc => cases h; exact Or.inl ⟨rfl, by omega⟩
    next => split at h
            next hc => cases h; exact Or.inr ⟨rfl, by omega⟩
            next => cases h
  case ge =>
    simp only [rIv] at h
    refine rIv_le (x := y) (y := x) ?_
    split at h
    next hc => cases h; exact Or.inr ⟨rfl, by omega⟩
    next => split at h
            next hc => cases h; exact Or.inl ⟨rfl, by omega⟩
            next => cases h
  case gt =>
    simp only [rIv] at h
    refine rIv_lt (x := y) (y := x) ?_
    split at h
    next hc => cases h; exact Or.inl ⟨rfl, by omega⟩
    next => split at h
            next hc => cases h; exact Or.inr ⟨rfl, by omega⟩
            next => cases h
  case le =>
    simp only [rIv] at h
    refine rIv_le ?_
    split at h
    next hc => cases h; exact Or.inr ⟨rfl, by omega⟩
    next => split at h
            next hc => cases h; exact Or.inl ⟨rfl, by omega⟩
            next => cases h
def rSw (cd : Jvm.ClassFile.Cond) : Jvm.ClassFile.Cond := match cd with
  | .lt => .gt
  | .gt => .lt
  | .le => .ge
  | .ge => .le
  | .eq => .eq
  | .ne => .ne
theorem rSw_ok (cd : Jvm.ClassFile.Cond) (x y : Int32) : re_icond (rSw cd) y x = re_icond cd x y := by
  cases cd <;> simp [rSw, re_icond, eq_comm]
def rOC (K : Nat → Int × Int) : re_O := fun cd u v => match u, v with
  | .float a, .int y => rIv cd (K a.toNat).1 (K a.toNat).2 y.toInt
  | .int x, .float b => rIv (rSw cd) (K b.toNat).1 (K b.toNat).2 x.toInt
  | _, _ => none
theorem rOC_ok {K : Nat → Int × Int} {V : re_V} (hK : ∀ t, (K t).1 ≤ (V.2.1 t).toInt ∧ (V.2.1 t).toInt ≤ (K t).2) : re_Ook V (rOC K) := by
  intro cd u v b x y h hu hv
  unfold rOC at h
  split at h
  next a z =>
    cases (show Value.int y = Value.int z from hv)
    cases (show Value.int x = Value.int (V.2.1 a.toNat) from hu)
    exact rIv_ok h (hK _).1 (hK _).2
  next z c =>
    cases (show Value.int x = Value.int z from hu)
    cases (show Value.int y = Value.int (V.2.1 c.toNat) from hv)
    rw [← rSw_ok]
    exact rIv_ok h (hK _).1 (hK _).2
  next => cases h
/-- arithmetic on the script's ints -/
def rOA (op : Nat) : re_A := fun ins u v => match ins with
  | .iand => match u, v with
    | .float t, .int y => if t.toNat = 0 ∧ y = 31 then some (.int (nI op)) else none
    | _, _ => none
  | .ishr => match u, v with
    | .int x, .float _ => if x = 0 then some (.int 0) else none
    | _, _ => none
  | .i2l => match u with
    | .float t => if t.toNat < 10 then some (.double (UInt64.ofNat t.toNat)) else none
    | _ => none
  | .lshl => match u, v with
    | .double t, .int y => if t.toNat < 10 ∧ y = 32 then some (.double (UInt64.ofNat (10 + t.toNat))) else none
    | _, _ => none
  | .land => match u, v with
    | .double t, .long y => if t.toNat < 10 ∧ y = 4294967295 then some (.double (UInt64.ofNat (20 + t.toNat))) else none
    | _, _ => none
  | .lor => match u, v with
    | .double a, .double b => if a.toNat < 30 ∧ b.toNat < 30 then some (.double (UInt64.ofNat (1000 + 100 * a.toNat + b.toNat))) else none
    | _, _ => none
  | _ => none
def rSg0 (xs : Nat → Int32) (n : Nat) : Int64 := if n < 10 then (xs n).toInt64 else if n < 20 then (xs (n - 10)).toInt64 <<< ((32 : Int32).toInt64 &&& 63) else (xs (n - 20)).toInt64 &&& 4294967295
def rSg (xs : Nat → Int32) (n : Nat) : Int64 := if n < 30 then rSg0 xs n else rSg0 xs ((n - 1000) / 100) ||| rSg0 xs ((n - 1000) % 100)
theorem r64 {n : Nat} (h : n < 100000) : (UInt64.ofNat n).toNat = n := by
  rw [UInt64.toNat_ofNat']
  exact Nat.mod_eq_of_lt (by omega)
theorem rSg_0 {xs : Nat → Int32} {n : Nat} (h : n < 30) : rSg xs n = rSg0 xs n := by
  unfold rSg
  rw [if_pos h]
theorem rOA_ok {op : Nat} {xs : Nat → Int32} {V : re_V} (hρ : V.2.1 = xs) (hσ : V.2.2.1 = rSg xs) (hop : xs 0 &&& 31 = nI op) : re_Aok V (rOA op) := by
  intro ins u v r ad cu cv h hu hv
  unfold rOA at h
  split at h
  next =>
    split at h
    next t y =>
      split at h
      next hc =>
        cases h
        obtain ⟨h0, rfl⟩ := hc
        cases (show cu = .int (V.2.1 t.toNat) from hu)
        cases (show cv = .int 31 from hv)
        refine ⟨_, rfl, ?_⟩
        show Value.int (V.2.1 t.toNat &&& 31) = Value.int (nI op)
        rw [h0, hρ, hop]
      next => cases h
    next => cases h
  next =>
    split at h
    next x y =>
      split at h
      next hc =>
        cases h
        subst hc
        cases (show cu = .int 0 from hu)
        cases (show cv = .int (V.2.1 y.toNat) from hv)
        refine ⟨_, rfl, ?_⟩
        show Value.int ((0 : Int32) >>> (V.2.1 y.toNat &&& 31)) = Value.int 0
        rw [Int32.zero_shiftRight]
      next => cases h
    next => cases h
  next =>
    split at h
    next t =>
      split at h
      next hc =>
        cases h
        cases (show cu = .int (V.2.1 t.toNat) from hu)
        refine ⟨_, rfl, ?_⟩
        show Value.long (V.2.1 t.toNat).toInt64 = Value.long (V.2.2.1 (UInt64.ofNat t.toNat).toNat)
        rw [r64 (by omega), hσ, hρ, rSg_0 (by omega)]
        unfold rSg0
        rw [if_pos hc]
      next => cases h
    next => cases h
  next =>
    split at h
    next t y =>
      split at h
      next hc =>
        cases h
        obtain ⟨h0, rfl⟩ := hc
        cases (show cu = .long (V.2.2.1 t.toNat) from hu)
        cases (show cv = .int 32 from hv)
        refine ⟨_, rfl, ?_⟩
        show Value.long (V.2.2.1 t.toNat <<< ((32 : Int32).toInt64 &&& 63)) = Value.long (V.2.2.1 (UInt64.ofNat (10 + t.toNat)).toNat)
        rw [r64 (by omega), hσ, rSg_0 (by omega), rSg_0 (by omega)]
        unfold rSg0
        rw [if_pos h0, if_neg (by omega), if_pos (by omega), show 10 + t.toNat - 10 = t.toNat by omega]
      next => cases h
    next => cases h
  next =>
    split at h
    next t y =>
      split at h
      next hc =>
        cases h
        obtain ⟨h0, rfl⟩ := hc
        cases (show cu = .long (V.2.2.1 t.toNat) from hu)
        cases (show cv = .long 4294967295 from hv)
        refine ⟨_, rfl, ?_⟩
        show Value.long (V.2.2.1 t.toNat &&& 4294967295) = Value.long (V.2.2.1 (UInt64.ofNat (20 + t.toNat)).toNat)
        rw [r64 (by omega), hσ, rSg_0 (by omega), rSg_0 (by omega)]
        unfold rSg0
        rw [if_pos h0, if_neg (by omega), if_neg (by omega), show 20 + t.toNat - 20 = t.toNat by omega]
      next => cases h
    next => cases h
  next =>
    split at h
    next a c =>
      split at h
      next hc =>
        cases h
        cases (show cu = .long (V.2.2.1 a.toNat) from hu)
        cases (show cv = .long (V.2.2.1 c.toNat) from hv)
        refine ⟨_, rfl, ?_⟩
        show Value.long (V.2.2.1 a.toNat ||| V.2.2.1 c.toNat) = Value.long (V.2.2.1 (UInt64.ofNat (1000 + 100 * a.toNat + c.toNat)).toNat)
        rw [r64 (by omega), hσ, rSg_0 (by omega), rSg_0 (by omega)]
        have e : rSg xs (1000 + 100 * a.toNat + c.toNat) = rSg0 xs a.toNat ||| rSg0 xs c.toNat := by
          unfold rSg
          rw [if_neg (by omega), show (1000 + 100 * a.toNat + c.toNat - 1000) / 100 = a.toNat by omega, show (1000 + 100 * a.toNat + c.toNat - 1000) % 100 = c.toNat by omega]
        rw [e]
      next => cases h
    next => cases h
  next => cases h
/-- an int of the script of which the bounds are known -/
def rSv (j : Nat) (a : Int × Int) : Value := if a.1 = a.2 then .int (Int32.ofInt a.1) else .float (UInt32.ofNat j)
def rFull : Int × Int := (-2147483648, 2147483647)
def rKb (a1 a2 : Int × Int) (t : Nat) : Int × Int := if t = 1 then a1 else if t = 2 then a2 else rFull
def rOk3 (op : Nat) (a1 a2 : Int × Int) : re_K := (rOC (rKb a1 a2), rOA op, [.float 0, rSv 1 a1, rSv 2 a2, .float 3], rPM)
theorem rSv_ok {V : re_V} {ad : List Nat} {j : Nat} {a : Int × Int} {x : Int32} (hj : j < 10) (h : a.1 ≤ x.toInt ∧ x.toInt ≤ a.2) (hx : V.2.1 j = x) : re_rv V ad (rSv j a) (.int x) := by
  unfold rSv
  split
  next he =>
    show Value.int x = Value.int (Int32.ofInt a.1)
    have e : a.1 = x.toInt := by omega
    rw [e, Int32.ofInt_toInt]
  next =>
    show Value.int x = Value.int (V.2.1 (UInt32.ofNat j).toNat)
    have e : (UInt32.ofNat j).toNat = j := by
      rw [UInt32.toNat_ofNat']
      exact Nat.mod_eq_of_lt (by omega)
    rw [e, hx]
theorem rSok3 {A1 : Nat → Nat} {σ : Nat → Int64} {xs : Nat → Int32} {a1 a2 : Int × Int} (h1 : a1.1 ≤ (xs 1).toInt ∧ (xs 1).toInt ≤ a1.2) (h2 : a2.1 ≤ (xs 2).toInt ∧ (xs 2).toInt ≤ a2.2) : re_Sok ((A1, xs, σ, 4, xs) : re_V) [.float 0, rSv 1 a1, rSv 2 a2, .float 3] := by
  refine ⟨rfl, fun ad j v hv => ?_⟩
  match j, hv with
  | 0, hv => cases hv; rfl
  | 1, hv => cases hv; exact rSv_ok (by omega) h1 rfl
  | 2, hv => cases hv; exact rSv_ok (by omega) h2 rfl
  | 3, hv => cases hv; rfl
  | j + 4, hv => simp at hv
theorem rSok4 {A1 : Nat → Nat} {σ : Nat → Int64} {xs : Nat → Int32} : re_Sok ((A1, xs, σ, 4, xs) : re_V) rSC4 := by
  refine ⟨rfl, fun ad j v hv => ?_⟩
  match j, hv with
  | 0, hv => cases hv; rfl
  | 1, hv => cases hv; rfl
  | 2, hv => cases hv; rfl
  | 3, hv => cases hv; rfl
  | j + 4, hv => simp [rSC4] at hv
theorem rBd (x : Int32) : (-2147483648 : Int) ≤ x.toInt ∧ x.toInt ≤ 2147483647 := by
  have h1 := Int32.minValue_le_toInt x
  have h2 := Int32.toInt_le x
  have e1 : (Int32.minValue).toInt = -2147483648 := by decide
  constructor
  · omega
  · have := Int32.toInt_lt x
    omega
theorem rKb_ok {xs : Nat → Int32} {a1 a2 : Int × Int} (h1 : a1.1 ≤ (xs 1).toInt ∧ (xs 1).toInt ≤ a1.2) (h2 : a2.1 ≤ (xs 2).toInt ∧ (xs 2).toInt ≤ a2.2) (t : Nat) : (rKb a1 a2 t).1 ≤ (xs t).toInt ∧ (xs t).toInt ≤ (rKb a1 a2 t).2 := by
  unfold rKb
  split
  next h => subst h; exact h1
  next =>
    split
    next h => subst h; exact h2
    next => exact rBd _
def rFin (o : Option re_Res) : Bool := match o with
  | some r => Nat.beq r.1 1 && (decide (r.2.1 = .int 1) && (Nat.ble r.2.2.2.1 1000 && (Nat.ble r.2.2.2.2.1 10000 && (Nat.ble r.2.2.2.2.2.1 1000 && Nat.ble r.2.2.2.2.2.2 10000))))
  | none => false
theorem rFin_ok {o : Option re_Res} (h : rFin o = true) : ∃ r : re_Res, o = some r ∧ r.1 = 1 ∧ r.2.1 = .int 1 ∧ r.2.2.2.1 ≤ 1000 ∧ r.2.2.2.2.1 ≤ 10000 ∧ r.2.2.2.2.2.1 ≤ 1000 ∧ r.2.2.2.2.2.2 ≤ 10000 := by
  unfold rFin at h
  split at h
  next r =>
    simp only [Bool.and_eq_true, decide_eq_true_eq] at h
    obtain ⟨h1, h2, h3, h4, h5, h6⟩ := h
    exact ⟨r, rfl, Nat.eq_of_beq_eq_true h1, h2, Nat.le_of_ble_eq_true h3, Nat.le_of_ble_eq_true h4, Nat.le_of_ble_eq_true h5, Nat.le_of_ble_eq_true h6⟩
  next => cases h
/-- one kind of call: the law goes on from its loop's head and answers 1 -/
def rChk (op : Nat) (a1 a2 : Int × Int) : Bool := rFin (re_go rG (rOk3 op a1 a2) 100000 rLawY 23 rLP [] rHP)
/-- pieces of a row that leave nothing out -/
def rCv : List (Int × Int) → Int → Bool
  | [], lo => decide (lo = 2147483648)
  | a :: r, lo => decide (a.1 = lo) && rCv r (a.2 + 1)
theorem rCv_ok : ∀ (l : List (Int × Int)) (lo : Int), rCv l lo = true → ∀ x : Int, lo ≤ x → x ≤ 2147483647 → ∃ a ∈ l, a.1 ≤ x ∧ x ≤ a.2
  | [], lo, h, x, h1, h2 => by
    have := of_decide_eq_true (p := lo = 2147483648) h
    omega
  | a :: r, lo, h, x, h1, h2 => by
    have h : (decide (a.1 = lo) && rCv r (a.2 + 1)) = true := h
    simp only [Bool.and_eq_true, decide_eq_true_eq] at h
    by_cases hx : x ≤ a.2
    · exact ⟨a, List.mem_cons_self, by omega, hx⟩
    · obtain ⟨b, hb, h3⟩ := rCv_ok r _ h.2 x (by omega) h2
      exact ⟨b, List.mem_cons_of_mem _ hb, h3⟩
def rAq (op : Nat) (q : (Int × Int) × List (Int × Int)) : Bool := rCv q.2 (-2147483648) && q.2.all (fun a2 => rChk op q.1 a2)
def rAll (op : Nat) (l : List ((Int × Int) × List (Int × Int))) : Bool := rCv (l.map (·.1)) (-2147483648) && l.all (rAq op)
theorem rAll_of {op : Nat} {l : List ((Int × Int) × List (Int × Int))} (h : rCv (l.map (·.1)) (-2147483648) = true) (k : ∀ q ∈ l, rAq op q = true) : rAll op l = true := by
  unfold rAll
  rw [h, Bool.true_and]
  exact List.all_eq_true.mpr k
theorem rAll_ok {op : Nat} {l : List ((Int × Int) × List (Int × Int))} (h : rAll op l = true) (x1 x2 : Int32) : ∃ a1 a2 : Int × Int, (a1.1 ≤ x1.toInt ∧ x1.toInt ≤ a1.2) ∧ (a2.1 ≤ x2.toInt ∧ x2.toInt ≤ a2.2) ∧ rChk op a1 a2 = true := by
  unfold rAll at h
  simp only [Bool.and_eq_true] at h
  obtain ⟨a1, ha1, k1⟩ := rCv_ok _ _ h.1 x1.toInt (rBd x1).1 (rBd x1).2
  obtain ⟨q, hq, rfl⟩ := List.mem_map.mp ha1
  have hq2 := List.all_eq_true.mp h.2 q hq
  unfold rAq at hq2
  simp only [Bool.and_eq_true] at hq2
  obtain ⟨a2, ha2, k2⟩ := rCv_ok _ _ hq2.1 x2.toInt (rBd x2).1 (rBd x2).2
  exact ⟨q.1, a2, k1, k2, List.all_eq_true.mp hq2.2 a2 ha2⟩
