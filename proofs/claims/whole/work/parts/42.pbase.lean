/-! the pure part: numbers as naturals, memories read and written -/
def zN (n : Nat) : Int32 := Int32.ofNat n
def zJ (n : Nat) : Int64 := Int64.ofNat n
theorem zN_toInt {n : Nat} (h : n < 2147483648) : (zN n).toInt = (n : Int) := Int32.toInt_ofNat_of_lt h
theorem zN_cl {n : Nat} (h : n < 2147483648) : (zN n).toNatClampNeg = n := Int32.toNatClampNeg_ofNat_of_lt h
theorem zN_le {a b : Nat} (ha : a < 2147483648) (hb : b < 2147483648) : (zN a ≤ zN b) = (a ≤ b) := propext (Int32.ofNat_le_iff_le ha hb)
theorem zN_lt {a b : Nat} (ha : a < 2147483648) (hb : b < 2147483648) : (zN a < zN b) = (a < b) := propext (Int32.ofNat_lt_iff_lt ha hb)
theorem zN_eq {a b : Nat} (ha : a < 2147483648) (hb : b < 2147483648) : (zN a = zN b) = (a = b) := propext ⟨fun h => by
  have q := congrArg Int32.toNatClampNeg h
  rw [zN_cl ha, zN_cl hb] at q
  exact q, fun h => by rw [h]⟩
theorem zN_neg {n : Nat} (h : n < 2147483648) : (zN n < 0) = False := by
  rw [show (0 : Int32) = zN 0 from rfl, zN_lt h (by decide)]
  exact eq_false (Nat.not_lt_zero n)
theorem zN_add (a b : Nat) : zN a + zN b = zN (a + b) := (Int32.ofNat_add a b).symm
theorem zN_mul (a b : Nat) : zN a * zN b = zN (a * b) := (Int32.ofNat_mul a b).symm
theorem zN_sub {a b : Nat} (h : b ≤ a) : zN a - zN b = zN (a - b) := (Int32.ofNat_sub a b h).symm
theorem zN_div {a b : Nat} (ha : a < 2147483648) (hb : b < 2147483648) : zN a / zN b = zN (a / b) := (Int32.ofNat_div ha hb).symm
theorem zN_s (a : Nat) : zN a + (1 : Int32) = zN (a + 1) := zN_add a 1
theorem zN_6 (s k : Nat) : (6 : Int32) * zN s + zN k = zN (6 * s + k) := by
  rw [show (6 : Int32) = zN 6 from rfl, zN_mul, zN_add]
theorem zN_3 (s k : Nat) : (3 : Int32) * zN s + zN k = zN (3 * s + k) := by
  rw [show (3 : Int32) = zN 3 from rfl, zN_mul, zN_add]
theorem zN_m1 {n : Nat} (h : n < 2147483648) : (zN n = (-1 : Int32)) = False := by
  refine eq_false (fun q => ?_)
  have q := congrArg Int32.toInt q
  rw [zN_toInt h, show (-1 : Int32).toInt = -1 from rfl] at q
  omega
theorem zN_m2 {n : Nat} (h : n < 2147483648) : (zN n = (-2 : Int32)) = False := by
  refine eq_false (fun q => ?_)
  have q := congrArg Int32.toInt q
  rw [zN_toInt h, show (-2 : Int32).toInt = -2 from rfl] at q
  omega
theorem zN_of {x : Int32} (h0 : 0 ≤ x) : ∃ n, n < 2147483648 ∧ x = zN n := ⟨x.toNatClampNeg, x.toNatClampNeg_lt, (Int32.ofNat_toNatClampNeg x h0).symm⟩
theorem zN_or (x : Int32) : x < 0 ∨ ∃ n, n < 2147483648 ∧ x = zN n := by
  by_cases h : x < 0
  · exact Or.inl h
  · exact Or.inr (zN_of (Int32.not_lt.mp h))
/-- an index that is in -/
theorem g_in {α : Type} {k c : Nat} {A : Option α} (h : k < c) (hc : c ≤ 2147483648) : (if zN k < 0 ∨ c ≤ (zN k).toNatClampNeg then none else A) = A := by
  refine if_neg (fun q => q.elim (fun q => ?_) (fun q => ?_))
  · rw [zN_neg (by omega)] at q
    exact q
  · rw [zN_cl (by omega)] at q
    omega
theorem g_in0 {α : Type} {c : Nat} {A : Option α} (h : 0 < c) (hc : c ≤ 2147483648) : (if (0 : Int32) < 0 ∨ c ≤ (0 : Int32).toNatClampNeg then none else A) = A := g_in (k := 0) h hc
/-- a number between two bounds -/
def Bd (x : Int32) (lo hi : Nat) : Prop := ∃ v, lo ≤ v ∧ v ≤ hi ∧ x = zN v
theorem upd_at {f : Nat → Int32} {k : Nat} {v : Int32} {j : Nat} : upd f k v j = if j = k then v else f j := by
  by_cases h : j = k
  · rw [if_pos h, h, pk_us]
  · rw [if_neg h, pk_un h]
theorem updL_at {f : Nat → Int64} {k : Nat} {v : Int64} {j : Nat} : vp_updL f k v j = if j = k then v else f j := by
  by_cases h : j = k
  · rw [if_pos h, h, pk_uLs]
  · rw [if_neg h, pk_uLn h]
theorem mI_at (m : Mem) (b k : Nat) (v : Int32) (c j : Nat) : (mI m b k v).1 c j = if c = b ∧ j = k then v else m.1 c j := by
  unfold mI
  by_cases h : c = b
  · subst h
    dsimp only
    rw [va_up_s, upd_at]
    by_cases h : j = k
    · rw [if_pos h, if_pos ⟨rfl, h⟩]
    · rw [if_neg h, if_neg (fun q => h q.2)]
  · dsimp only
    rw [va_up_n h, if_neg (fun q => h q.1)]
theorem mI_s {m : Mem} {b k : Nat} {v : Int32} {c j : Nat} (h : c = b ∧ j = k) : (mI m b k v).1 c j = v := by rw [mI_at, if_pos h]
theorem mI_n {m : Mem} {b k : Nat} {v : Int32} {c j : Nat} (h : c ≠ b ∨ j ≠ k) : (mI m b k v).1 c j = m.1 c j := by rw [mI_at, if_neg (by omega)]
theorem mI_2 (m : Mem) (b k : Nat) (v : Int32) : (mI m b k v).2 = m.2 := rfl
theorem mJ_1 (m : Mem) (b k : Nat) (v : Int64) : (mJ m b k v).1 = m.1 := rfl
theorem mJ_r (m : Mem) (b k : Nat) (v : Int64) : (mJ m b k v).2.2 = m.2.2 := rfl
theorem mJ_at (m : Mem) (b k : Nat) (v : Int64) (c j : Nat) : (mJ m b k v).2.1 c j = if c = b ∧ j = k then v else m.2.1 c j := by
  unfold mJ
  by_cases h : c = b
  · subst h
    dsimp only
    rw [va_up_s, updL_at]
    by_cases h : j = k
    · rw [if_pos h, if_pos ⟨rfl, h⟩]
    · rw [if_neg h, if_neg (fun q => h q.2)]
  · dsimp only
    rw [va_up_n h, if_neg (fun q => h q.1)]
theorem mJ_s {m : Mem} {b k : Nat} {v : Int64} {c j : Nat} (h : c = b ∧ j = k) : (mJ m b k v).2.1 c j = v := by rw [mJ_at, if_pos h]
theorem mJ_n {m : Mem} {b k : Nat} {v : Int64} {c j : Nat} (h : c ≠ b ∨ j ≠ k) : (mJ m b k v).2.1 c j = m.2.1 c j := by rw [mJ_at, if_neg (by omega)]
theorem mR_1 (m : Mem) (k q : Nat) : (mR m k q).1 = m.1 := rfl
theorem mR_2 (m : Mem) (k q : Nat) : (mR m k q).2.1 = m.2.1 := rfl
theorem mC_2 (m : Mem) (a sp b dp n : Nat) : (mC m a sp b dp n).2 = m.2 := rfl
theorem mC_at (m : Mem) (a sp b dp n c j : Nat) : (mC m a sp b dp n).1 c j = if c = b ∧ dp ≤ j ∧ j < dp + n then m.1 a (sp + (j - dp)) else m.1 c j := by
  unfold mC
  by_cases h : c = b
  · subst h
    dsimp only
    rw [va_up_s]
    unfold va_cpy
    by_cases h : dp ≤ j ∧ j < dp + n
    · rw [if_pos h, if_pos ⟨rfl, h⟩]
    · rw [if_neg h, if_neg (fun q => h q.2)]
  · dsimp only
    rw [va_up_n h, if_neg (fun q => h q.1)]
theorem b_some {α β : Type} (a : α) (f : α → Option β) : (some a).bind f = f a := rfl
/-- fuel -/
theorem fuel {n r : Nat} (h : r < n) : ∃ n', n = n' + 1 ∧ r ≤ n' := ⟨n - 1, by omega, by omega⟩
theorem l_add {a b : Int64} (h1 : -9223372036854775808 ≤ a.toInt + b.toInt) (h2 : a.toInt + b.toInt < 9223372036854775808) : (a + b).toInt = a.toInt + b.toInt := by
  rw [Int64.toInt_add]
  exact Int.bmod_eq_of_le (by omega) (by omega)
theorem l_sub {a b : Int64} (h1 : -9223372036854775808 ≤ a.toInt - b.toInt) (h2 : a.toInt - b.toInt < 9223372036854775808) : (a - b).toInt = a.toInt - b.toInt := by
  rw [Int64.toInt_sub]
  exact Int.bmod_eq_of_le (by omega) (by omega)
theorem l_neg {a : Int64} (h1 : -9223372036854775808 < a.toInt) : (-a).toInt = -a.toInt := by
  have h2 := a.toInt_lt
  rw [Int64.toInt_neg]
  exact Int.bmod_eq_of_le (by omega) (by omega)
theorem i_add {a b : Int32} (h1 : -2147483648 ≤ a.toInt + b.toInt) (h2 : a.toInt + b.toInt < 2147483648) : (a + b).toInt = a.toInt + b.toInt := by
  rw [Int32.toInt_add]
  exact Int.bmod_eq_of_le (by omega) (by omega)
theorem i_sub {a b : Int32} (h1 : -2147483648 ≤ a.toInt - b.toInt) (h2 : a.toInt - b.toInt < 2147483648) : (a - b).toInt = a.toInt - b.toInt := by
  rw [Int32.toInt_sub]
  exact Int.bmod_eq_of_le (by omega) (by omega)
theorem nle_f {a b : Nat} (h : b < a) : (a ≤ b) = False := eq_false (by omega)
theorem nle_t {a b : Nat} (h : a ≤ b) : (a ≤ b) = True := eq_true h
theorem nlt_f {a b : Nat} (h : b ≤ a) : (a < b) = False := eq_false (by omega)
theorem nlt_t {a b : Nat} (h : a < b) : (a < b) = True := eq_true h
theorem neq_f {a b : Nat} (h : a ≠ b) : (a = b) = False := eq_false h
theorem neq_t {a b : Nat} (h : a = b) : (a = b) = True := eq_true h
theorem zN_e0 {a : Nat} (h : a < 2147483648) : (zN a = 0) = (a = 0) := zN_eq h (by decide)
