/-! fractions, counts, feeding -/
theorem zJ_sub {a b : Nat} (h : b ≤ a) : zJ a - zJ b = zJ (a - b) := (Int64.ofNat_sub a b h).symm
theorem zJ_toInt {n : Nat} (h : n < 9223372036854775808) : (zJ n).toInt = (n : Int) := Int64.toInt_ofNat_of_lt h
theorem zJ_eq {a b : Nat} (ha : a < 9223372036854775808) (hb : b < 9223372036854775808) : zJ a = zJ b ↔ a = b := ⟨fun h => by
  have q := congrArg Int64.toInt h
  rw [zJ_toInt ha, zJ_toInt hb] at q
  omega, fun h => by rw [h]⟩
theorem jrem_zJ {x y : Nat} (hx : x < 4611686018427387904) (hy : y < 4611686018427387904) : jremL (zJ x) (zJ y) = zJ (x % y) := by
  have h1 : x / y * y ≤ x := Nat.div_mul_le_self x y
  unfold jremL
  rw [zJ_div (by omega) (by omega), zJ_mul, zJ_sub h1, Nat.mod_def, Nat.mul_comm]
theorem half_lt {y r : Nat} (h0 : 0 < r) (h : r < y) : 2 * (y % r) < y := by
  have h1 : y % r < r := Nat.mod_lt _ h0
  have h2 : y % r ≤ y - r := by
    rw [Nat.mod_eq_sub_mod (by omega)]
    exact Nat.mod_le _ _
  omega
theorem gcd_rel {N : Nat} {k45 : Int64 → Int64 → Int32 → Int64 → Mem → Option Int64} {a b : Int64} {w : Int32} {m m' : Mem} : ∀ k x y i nC nR, y < 2 ^ k → k ≤ 60 → i + 2 * k + 1 ≤ 200 → 2 * k < nC → 2 * k < nR → x < 4611686018427387904 → 0 < x + y → ∃ g, 0 < g ∧ g ≤ x + y ∧ fX11_leastTerm_9 N k45 nC a b w (zJ x) (zJ y) (zN i) m = k45 a b w (zJ g) m ∧ fX12_common_6 N nR (zJ x) (zJ y) m' = some (zJ g) := by
  have stop : ∀ x i nC nR, 0 < nC → 0 < nR → i < 200 → fX11_leastTerm_9 N k45 nC a b w (zJ x) (zJ 0) (zN i) m = k45 a b w (zJ x) m ∧ fX12_common_6 N nR (zJ x) (zJ 0) m' = some (zJ x) := by
    intro x i nC nR h1 h2 hi
    obtain ⟨nC', rfl, _⟩ := fuel h1
    obtain ⟨nR', rfl, _⟩ := fuel h2
    rw [fX11_leastTerm_9, fX12_common_6, if_neg (show ¬ ((200 : Int32) ≤ zN i) from zle (a := 200) (by omega) (by omega) (by omega)), if_pos ((lg_cmp_eq (zJ 0) 0).mpr rfl), if_pos ((lg_cmp_eq (zJ 0) 0).mpr rfl)]
    exact ⟨rfl, rfl⟩
  have step : ∀ x y i nC nR, 0 < y → y < 4611686018427387904 → x < 4611686018427387904 → i < 200 → fX11_leastTerm_9 N k45 (nC + 1) a b w (zJ x) (zJ y) (zN i) m = fX11_leastTerm_9 N k45 nC a b w (zJ y) (zJ (x % y)) (zN (i + 1)) m ∧ fX12_common_6 N (nR + 1) (zJ x) (zJ y) m' = fX12_common_6 N nR (zJ y) (zJ (x % y)) m' := by
    intro x y i nC nR h0 h1 h2 hi
    have nz : ¬ (zJ y = 0) := by
      show ¬ (zJ y = zJ 0)
      rw [zJ_eq (by omega) (by omega)]
      omega
    have nz' : ¬ (lg_cmp (zJ y) 0 = 0) := fun z => nz ((lg_cmp_eq _ _).mp z)
    rw [fX11_leastTerm_9, fX12_common_6, if_neg (show ¬ ((200 : Int32) ≤ zN i) from zle (a := 200) (by omega) (by omega) (by omega)), if_neg nz', if_neg nz, if_neg nz', if_neg nz, jrem_zJ h2 h1, zN_s]
    exact ⟨rfl, rfl⟩
  intro k
  induction k with
  | zero =>
    intro x y i nC nR hy hk hi hC hR hx h0
    have e : y = 0 := by omega
    subst e
    have q := stop x i nC nR (by omega) (by omega) (by omega)
    exact ⟨x, by omega, by omega, q.1, q.2⟩
  | succ k ih =>
    intro x y i nC nR hy hk hi hC hR hx h0
    have p60 : (2 : Nat) ^ (k + 1) ≤ 2 ^ 60 := Nat.pow_le_pow_right (by omega) hk
    have hy62 : y < 4611686018427387904 := by
      have : (2 : Nat) ^ 60 = 1152921504606846976 := rfl
      omega
    by_cases y0 : y = 0
    · subst y0
      have q := stop x i nC nR (by omega) (by omega) (by omega)
      exact ⟨x, by omega, by omega, q.1, q.2⟩
    · obtain ⟨nC', rfl, hC⟩ := fuel hC
      obtain ⟨nR', rfl, hR⟩ := fuel hR
      have s1 := step x y i nC' nR' (by omega) hy62 hx (by omega)
      have hr : x % y < y := Nat.mod_lt _ (by omega)
      have hrx : x % y ≤ x := Nat.mod_le _ _
      rw [s1.1, s1.2]
      by_cases r0 : x % y = 0
      · rw [r0]
        have q := stop y (i + 1) nC' nR' (by omega) (by omega) (by omega)
        exact ⟨y, by omega, by omega, q.1, q.2⟩
      · obtain ⟨nC2, rfl⟩ : ∃ n, nC' = n + 1 := ⟨nC' - 1, by omega⟩
        obtain ⟨nR2, rfl⟩ : ∃ n, nR' = n + 1 := ⟨nR' - 1, by omega⟩
        have s2 := step y (x % y) (i + 1) nC2 nR2 (by omega) (by omega) hy62 (by omega)
        have hh := half_lt (by omega) hr
        have hp : (2 : Nat) ^ (k + 1) = 2 ^ k * 2 := Nat.pow_succ 2 k
        rw [s2.1, s2.2]
        obtain ⟨g, g1, g2, g3, g4⟩ := ih (x % y) (y % (x % y)) (i + 1 + 1) nC2 nR2 (by omega) (by omega) (by omega) (by omega) (by omega) (by omega) (by omega)
        exact ⟨g, g1, by omega, g3, g4⟩
/-- a fraction in least terms -/
theorem least_rel {N A B K : Nat} {w : Int32} {m m' : Mem} (hN : 1000 ≤ N) (hB : B < 2 ^ K) (hK : K ≤ 60) (hA : A < 4611686018427387904) (h0 : 0 < B) : ∃ g, 0 < g ∧ g ≤ A + B ∧ fX11_leastTerm N (zJ A) (zJ B) w m = (if w = 0 then some (zJ (A / g)) else some (zJ (B / g))) ∧ fX12_common N (zJ A) (zJ B) m' = some (zJ g) := by
  have p60 : (2 : Nat) ^ K ≤ 2 ^ 60 := Nat.pow_le_pow_right (by omega) hK
  have e60 : (2 : Nat) ^ 60 = 1152921504606846976 := rfl
  obtain ⟨g, g1, g2, g3, g4⟩ := gcd_rel (N := N) (k45 := fX11_leastTerm_45 N) (a := zJ A) (b := zJ B) (w := w) (m := m) (m' := m') K A B 0 N N hB hK (by omega) (by omega) (by omega) hA (by omega)
  refine ⟨g, g1, g2, ?_, g4⟩
  unfold fX11_leastTerm
  rw [show fX11_leastTerm_9 N (fX11_leastTerm_45 N) N (zJ A) (zJ B) w (zJ A) (zJ B) (0 : Int32) m = _ from g3]
  unfold fX11_leastTerm_45
  have nz : ¬ (zJ g = 0) := by
    show ¬ (zJ g = zJ 0)
    rw [zJ_eq (by omega) (by omega)]
    omega
  rw [if_neg (fun z => nz ((lg_cmp_eq _ _).mp z)), if_neg nz, if_neg nz, zJ_div (by omega) (by omega), zJ_div (by omega) (by omega)]
theorem zN_any (y : Int32) : ∃ n, y = zN n := ⟨y.toBitVec.toNat, by
  apply Int32.toBitVec_inj.1
  show y.toBitVec = BitVec.ofNat 32 y.toBitVec.toNat
  rw [BitVec.ofNat_toNat, BitVec.setWidth_eq]⟩
theorem sh_ok : ∀ j, j < 7 → ((zN j &&& (31 : Int32)).toBitVec.smod 32).toNat = j ∧ (1 : Int32) <<< (zN j &&& (31 : Int32)) = zN (2 ^ j) := by decide
theorem bit_ok {T j : Nat} (hT : T < 2147483648) (hj : j < 7) : (zN T >>> (zN j &&& (31 : Int32))) &&& (1 : Int32) = zN (T / 2 ^ j % 2) := by
  rw [zN_shr hT _ (sh_ok j hj).1]
  exact zN_and (j := 1) (by omega) _ (by decide)
theorem tog_in {Z : Nat → Nat} {o nt nu nf N T : Nat} {x2 : Int32} {mC mR : Mem} (hN : 1000 ≤ N) (h : InvZ Z o nt nu nf mC mR) (hT : T < 2 ^ Z 1) (hT0 : 0 < T) : ∀ rem j nC nR A B, j + rem = Z 1 → rem < nC → rem < nR → A ≤ j * 989010 → B ≤ j * 999 → (1 ≤ B ∨ T % 2 ^ j = 0) → ∃ v, fX11_together_40 N (fX11_together_117 N) nC (zN T) x2 (zN A) (zN B) (zN j) mC = some v ∧ fX12_together_41 N nR (zN T) x2 (zN A) (zN B) (zN j) mR = some (v, mR) := by
  have hlo := h.lo
  have hz := h.od.zb
  have e1 : mC.1 (o + 3) 2 = zN (Z 1) := h.od.sC 1 (by omega)
  have e2 : mR.1 101 1 = zN (Z 1) := h.od.sR 1 (by omega)
  have hT31 : T < 2147483648 := by
    have : (2 : Nat) ^ Z 1 ≤ 2 ^ 6 := Nat.pow_le_pow_right (by omega) (by omega)
    omega
  intro rem
  induction rem with
  | zero =>
    intro j nC nR A B hj hnC hnR hA hB hz0
    obtain ⟨nC', rfl, _⟩ := fuel hnC
    obtain ⟨nR', rfl, _⟩ := fuel hnR
    have ej : j = Z 1 := by omega
    have B1 : 1 ≤ B := by
      rcases hz0 with q | q
      · exact q
      · rw [ej, Nat.mod_eq_of_lt hT] at q
        omega
    obtain ⟨g, g1, g2, g3, g4⟩ := least_rel (K := 13) (w := x2) (m := mC) (m' := mR) hN (show B < 2 ^ 13 by omega) (by omega) (show A < 4611686018427387904 by omega) B1
    rw [fX11_together_40, h.sp.1, if_pos hlo, e1, if_pos (zle' (by omega) (by omega) (by omega)), fX12_together_41, e2, if_pos (zle' (by omega) (by omega) (by omega))]
    unfold fX11_together_117
    rw [zN_64 (by omega), zN_64 (by omega), g3, g4, b_some, zJ_32]
    have ng : ¬ (zN g = 0) := zne (c := 0) (by omega) (by omega) (by omega)
    rw [if_neg ng, if_neg ng, zN_div (by omega) (by omega), zN_div (by omega) (by omega)]
    by_cases q : x2 = 0
    · rw [if_pos q, if_pos q, b_some, zJ_32]
      exact ⟨_, rfl, rfl⟩
    · rw [if_neg q, if_neg q, b_some, zJ_32]
      exact ⟨_, rfl, rfl⟩
  | succ rem ih =>
    intro j nC nR A B hj hnC hnR hA hB hz0
    obtain ⟨nC', rfl, hnC⟩ := fuel hnC
    obtain ⟨nR', rfl, hnR⟩ := fuel hnR
    obtain ⟨l, l1, l2, l3⟩ := h.nw.li j (by omega)
    obtain ⟨hh, h1, h2, h3⟩ := h.nw.he j (by omega)
    have b0 : mC.1 44 j = zN l := (h.nw.eq 0 j (by omega) (by omega)).trans l3
    have b1 : mC.1 45 j = zN hh := (h.nw.eq 1 j (by omega) (by omega)).trans h3
    rw [Nat.mul_zero, Nat.zero_add] at l3 h3
    have hm : l * hh ≤ 989010 := Nat.le_trans (Nat.mul_le_mul l2 h2) (by omega)
    have hp : T % 2 ^ (j + 1) = T % 2 ^ j + 2 ^ j * (T / 2 ^ j % 2) := by
      rw [Nat.pow_succ, Nat.mod_mul]
    rw [fX11_together_40, h.sp.1, if_pos hlo, e1, if_neg (zle (by omega) (by omega) (by omega)), if_neg (show ¬ ((6 : Int32) ≤ zN j) from zle (a := 6) (by omega) (by omega) (by omega)), fX12_together_41, e2, if_neg (zle (by omega) (by omega) (by omega)), bit_ok hT31 (by omega)]
    by_cases q : T / 2 ^ j % 2 = 0
    · rw [q, if_neg (show ¬ (zN 0 = (1 : Int32)) from by decide), if_pos (show zN 0 = (0 : Int32) from rfl), zN_s]
      refine ih (j + 1) nC' nR' A B (by omega) (by omega) (by omega) (Nat.le_trans hA (Nat.mul_le_mul_right _ (Nat.le_succ j))) (Nat.le_trans hB (Nat.mul_le_mul_right _ (Nat.le_succ j))) ?_
      rcases hz0 with z | z
      · exact Or.inl z
      · right
        rw [hp, q, z]
        rfl
    · have q1 : T / 2 ^ j % 2 = 1 := by omega
      rw [q1, if_pos (show zN 1 = (1 : Int32) from rfl), if_neg (show ¬ (zN 1 = (0 : Int32)) from by decide)]
      simp (disch := omega) only [zN_cl, zN_neg, nle_f, or_false, ↓reduceIte, b0, b1, l3, h3, zN_mul, zN_add, zN_s]
      exact ih (j + 1) nC' nR' (A + l * hh) (B + l) (by omega) (by omega) (by omega) (by omega) (by omega) (Or.inl (by omega))
theorem op19 {N : Nat} (hN : 1000 ≤ N) : OP19 Inv N := by
  intro mC mR x1 x2 ⟨Z, o, nt, nu, nf, h⟩
  have h := h.th 0
  have hlo := h.lo
  have hz := h.od.zb
  unfold fX11_together fX12_together
  generalize mI mR 99 0 (0 : Int32) = R at h ⊢
  have e1 : mC.1 (o + 3) 2 = zN (Z 1) := h.od.sC 1 (by omega)
  have e2 : R.1 101 1 = zN (Z 1) := h.od.sR 1 (by omega)
  rw [h.sp.1, if_pos hlo, e1, e2, (sh_ok (Z 1) (by omega)).2]
  by_cases q : x1 < (1 : Int32)
  · rw [if_pos q, if_pos q]
    exact ⟨_, _, rfl, rfl, h.i⟩
  rw [if_neg q, if_neg q]
  by_cases q2 : zN (2 ^ Z 1) ≤ x1
  · rw [if_pos q2, if_pos q2]
    exact ⟨_, _, rfl, rfl, h.i⟩
  rw [if_neg q2, if_neg q2]
  by_cases q3 : x2 < 0
  · rw [if_pos q3, if_pos q3]
    exact ⟨_, _, rfl, rfl, h.i⟩
  rw [if_neg q3, if_neg q3]
  by_cases q4 : x2 ≤ (1 : Int32)
  · rw [if_pos q4, if_pos q4]
    have hp : (2 : Nat) ^ Z 1 ≤ 2 ^ 6 := Nat.pow_le_pow_right (by omega) (by omega)
    rcases zN_or x1 with z | ⟨T, hT, rfl⟩
    · exfalso
      apply q
      rw [Int32.lt_iff_toInt_lt] at z ⊢
      rw [show (0 : Int32).toInt = 0 from rfl] at z
      rw [show (1 : Int32).toInt = 1 from rfl]
      omega
    · rw [zN_le (by omega) hT] at q2
      have q : ¬ (zN T < zN 1) := q
      rw [zN_lt hT (by omega)] at q
      obtain ⟨v, v1, v2⟩ := tog_in (x2 := x2) hN h (show T < 2 ^ Z 1 by omega) (by omega) (Z 1) 0 N N 0 0 (by omega) (by omega) (by omega) (by omega) (by omega) (Or.inr (by rw [Nat.pow_zero, Nat.mod_one]))
      exact ⟨v, R, v1, v2, h.i⟩
  · rw [if_neg q4, if_neg q4]
    exact ⟨_, _, rfl, rfl, h.i⟩
theorem steady_in {Z : Nat → Nat} {o nt nu nf N f n : Nat} {x2 : Int32} {mC mR : Mem} (hN : 1000 ≤ N) (h : InvZ Z o nt nu nf mC mR) (hf : f ≤ 100) (ef : mR.1 101 5 = zN f) (hn : n ≤ 6) : ∀ rem j nC nR, j + rem = n → rem < nC → rem < nR → ∃ v, fX11_steady_31 N nC (zN n) x2 (zJ ((100 - f) ^ j)) (zJ (100 ^ j)) (zN j) mC = some v ∧ fX12_steady_36 N nR (zN n) x2 (zJ ((100 - f) ^ j)) (zJ (100 ^ j)) (zN j) mR = some (v, mR) := by
  have hlo := h.lo
  have hz := h.od.zb
  have ec : mC.1 o 6 = zN f := h.od.fl.1.trans ef
  have P : ∀ j, j ≤ 6 → (100 - f) ^ j ≤ 1000000000000 ∧ 100 ^ j ≤ 1000000000000 := by
    intro j hj
    have a1 : (100 - f) ^ j ≤ 100 ^ j := Nat.pow_le_pow_left (by omega) j
    have a2 : 100 ^ j ≤ 100 ^ 6 := Nat.pow_le_pow_right (by omega) hj
    omega
  intro rem
  induction rem with
  | zero =>
    intro j nC nR hj hnC hnR
    obtain ⟨nC', rfl, _⟩ := fuel hnC
    obtain ⟨nR', rfl, _⟩ := fuel hnR
    have p := P j (by omega)
    have hp0 : 0 < 100 ^ j := Nat.pow_pos (by omega)
    obtain ⟨g, g1, g2, g3, g4⟩ := least_rel (A := (100 - f) ^ j) (B := 100 ^ j) (K := 40) (w := x2) (m := mC) (m' := mR) hN (by omega) (by omega) (by omega) hp0
    rw [fX11_steady_31, if_pos (zle' (by omega) (by omega) (by omega)), fX12_steady_36, if_pos (zle' (by omega) (by omega) (by omega)), g3, g4, b_some]
    have nz : ¬ (zJ g = 0) := by
      show ¬ (zJ g = zJ 0)
      rw [zJ_eq (by omega) (by omega)]
      omega
    rw [if_neg nz, if_neg nz, zJ_div (by omega) (by omega), zJ_div (by omega) (by omega)]
    by_cases q : x2 = 0
    · rw [if_pos q, if_pos q, b_some]
      exact ⟨_, rfl, rfl⟩
    · rw [if_neg q, if_neg q, b_some]
      exact ⟨_, rfl, rfl⟩
  | succ rem ih =>
    intro j nC nR hj hnC hnR
    obtain ⟨nC', rfl, hnC⟩ := fuel hnC
    obtain ⟨nR', rfl, hnR⟩ := fuel hnR
    rw [fX11_steady_31, if_neg (zle (by omega) (by omega) (by omega)), fX12_steady_36, if_neg (zle (by omega) (by omega) (by omega)), h.sp.1, if_pos hlo, ec, ef, show (100 : Int32) = zN 100 from rfl, zN_sub hf, zN_64 (by omega), zN_64 (by omega), show (100 : Int64) = zJ 100 from rfl, zJ_sub hf, zJ_mul, zJ_mul, zN_s, ← Nat.pow_succ, ← Nat.pow_succ]
    exact ih (j + 1) nC' nR' (by omega) (by omega) (by omega)
theorem op25 {N : Nat} (hN : 1000 ≤ N) : OP25 Inv N := by
  intro mC mR x1 x2 ⟨Z, o, nt, nu, nf, h⟩
  have h := h.th 0
  have hlo := h.lo
  have hz := h.od.zb
  unfold fX11_steady fX12_steady
  generalize mI mR 99 0 (0 : Int32) = R at h ⊢
  rcases zN_or x1 with q | ⟨n, hn, rfl⟩
  · rw [if_pos q, if_pos q]
    exact ⟨_, _, rfl, rfl, h.i⟩
  rw [if_neg (znn hn), if_neg (znn hn)]
  by_cases q : (6 : Int32) < zN n
  · rw [if_pos q, if_pos q]
    exact ⟨_, _, rfl, rfl, h.i⟩
  rw [if_neg q, if_neg q]
  by_cases q3 : x2 < 0
  · rw [if_pos q3, if_pos q3]
    exact ⟨_, _, rfl, rfl, h.i⟩
  rw [if_neg q3, if_neg q3]
  by_cases q4 : x2 ≤ (1 : Int32)
  · rw [if_pos q4, if_pos q4]
    have q : ¬ (zN 6 < zN n) := q
    rw [zN_lt (by omega) hn] at q
    obtain ⟨f, f1, f2, f3⟩ := h.od.fl.2
    obtain ⟨v, v1, v2⟩ := steady_in (x2 := x2) hN h f2 f3 (show n ≤ 6 by omega) n 0 N N (by omega) (by omega) (by omega)
    exact ⟨v, R, v1, v2, h.i⟩
  · rw [if_neg q4, if_neg q4]
    exact ⟨_, _, rfl, rfl, h.i⟩
theorem sum_rel {N c r s : Nat} {mC mR : Mem} (hN : 100 ≤ N) (hs : s ≤ 22) (hc : (lay c).2 = 6) (hr : (lay r).2 = 138) (e : ∀ k, k < 6 → mC.1 c k = mR.1 r (6 * s + k)) : ∃ v, fX11_sumOf N c mC = some v ∧ fX12_sumOf N r (zN s) mR = some v := by
  have L : ∀ rem k nC nR x, k + rem = 6 → rem < nC → rem < nR → ∃ v, fX11_sumOf_4 N nC c x (zN k) mC = some v ∧ fX12_sumOf_5 N nR r (zN s) x (zN k) mR = some v := by
    intro rem
    induction rem with
    | zero =>
      intro k nC nR x hk hnC hnR
      obtain ⟨nC', rfl, _⟩ := fuel hnC
      obtain ⟨nR', rfl, _⟩ := fuel hnR
      have ek : k = 6 := by omega
      subst ek
      rw [fX11_sumOf_4, hc, if_pos (show Int32.ofNat 6 ≤ zN 6 from by decide), fX12_sumOf_5, if_pos (show (6 : Int32) ≤ zN 6 from by decide)]
      exact ⟨_, rfl, rfl⟩
    | succ rem ih =>
      intro k nC nR x hk hnC hnR
      obtain ⟨nC', rfl, hnC⟩ := fuel hnC
      obtain ⟨nR', rfl, hnR⟩ := fuel hnR
      rw [fX11_sumOf_4, hc, if_neg (show ¬ (Int32.ofNat 6 ≤ zN k) from zle (a := 6) (by omega) (by omega) (by omega)), g_in (by omega) (by omega), zN_cl (by omega), zN_s, fX12_sumOf_5, if_neg (show ¬ ((6 : Int32) ≤ zN k) from zle (a := 6) (by omega) (by omega) (by omega)), hr, zN_6, g_in (by omega) (by omega), zN_cl (by omega), zN_s, e k (by omega)]
      exact ih (k + 1) nC' nR' _ (by omega) (by omega) (by omega)
  exact L 6 0 N N 0 (by omega) (by omega) (by omega)
theorem bathers_rel {Z : Nat → Nat} {o nt nu nf N : Nat} {mC mR : Mem} (hN : 100 ≤ N) (h : InvZ Z o nt nu nf mC mR) : ∃ v, fX0_bathers N 43 mC = some v ∧ fX12_inTubs N mR = some v := by
  have hz := h.od.zb
  have e2 : mR.1 101 0 = zN (Z 0) := h.od.sR 0 (by omega)
  have P : ∀ k, k < 6 → (mC.1 48 k = -2 ∧ mR.1 129 k = -1) ∨ (k < Z 0 ∧ ∃ t, t < Z 1 ∧ mC.1 48 k = zN t ∧ mR.1 129 k = zN t) := by
    intro k hk
    have q := h.nw.pl k hk
    rw [Nat.mul_zero, Nat.zero_add] at q
    rcases q with q | ⟨q, t, q1, q2, q3, q4⟩
    · exact Or.inl q
    · exact Or.inr ⟨q, t, q1, q2, q3⟩
  have R : ∀ rem k nC x, k + rem = 6 → Z 0 ≤ k → rem < nC → fX0_bathers_4 N nC 43 x (zN k) mC = some x := by
    intro rem
    induction rem with
    | zero =>
      intro k nC x hk hk0 hnC
      obtain ⟨nC', rfl, _⟩ := fuel hnC
      have ek : k = 6 := by omega
      subst ek
      rw [fX0_bathers_4, if_pos (show (6 : Int32) ≤ zN 6 from by decide)]
    | succ rem ih =>
      intro k nC x hk hk0 hnC
      obtain ⟨nC', rfl, hnC⟩ := fuel hnC
      rcases P k (by omega) with ⟨p1, p2⟩ | ⟨p1, p2⟩
      · rw [fX0_bathers_4, if_neg (show ¬ ((6 : Int32) ≤ zN k) from zle (a := 6) (by omega) (by omega) (by omega)), g_in (by omega) (by omega), zN_cl (by omega), show mC.1 (43 + 5) k = -2 from p1, if_pos (by decide), zN_s]
        exact ih (k + 1) nC' x (by omega) (by omega) (by omega)
      · omega
  have L : ∀ rem k nC nR x, k + rem = Z 0 → rem + 7 < nC → rem < nR → ∃ v, fX0_bathers_4 N nC 43 x (zN k) mC = some v ∧ fX12_inTubs_4 N nR x (zN k) mR = some v := by
    intro rem
    induction rem with
    | zero =>
      intro k nC nR x hk hnC hnR
      obtain ⟨nR', rfl, _⟩ := fuel hnR
      rw [fX12_inTubs_4, e2, if_pos (zle' (by omega) (by omega) (by omega))]
      exact ⟨x, R (6 - k) k nC x (by omega) (by omega) (by omega), rfl⟩
    | succ rem ih =>
      intro k nC nR x hk hnC hnR
      obtain ⟨nC', rfl, hnC⟩ := fuel hnC
      obtain ⟨nR', rfl, hnR⟩ := fuel hnR
      rw [fX0_bathers_4, if_neg (show ¬ ((6 : Int32) ≤ zN k) from zle (a := 6) (by omega) (by omega) (by omega)), g_in (by omega) (by omega), zN_cl (by omega), zN_s, fX12_inTubs_4, e2, if_neg (zle (by omega) (by omega) (by omega)), g_in (by omega) (by omega), zN_cl (by omega), zN_s]
      rcases P k (by omega) with ⟨p1, p2⟩ | ⟨p0, t, p1, p2, p3⟩
      · rw [show mC.1 (43 + 5) k = -2 from p1, if_pos (by decide), p2, if_pos rfl, Int32.add_zero]
        exact ih (k + 1) nC' nR' x (by omega) (by omega) (by omega)
      · rw [show mC.1 (43 + 5) k = zN t from p2, if_neg (znn (by omega)), p3, if_neg (show ¬ (zN t = (-1 : Int32)) from by rw [zN_m1 (by omega)]; exact id)]
        exact ih (k + 1) nC' nR' (x + 1) (by omega) (by omega) (by omega)
  exact L (Z 0) 0 N N 0 (by omega) (by omega) (by omega)
theorem known_rel {Z : Nat → Nat} {n : Nat} {mC mR : Mem} (h : FacR Z n mC mR) : ∃ q, q ≤ n ∧ fX1_countKnown mC = some (zN q) ∧ fX12_knownMany mR = some (zN q) := by
  have hn := h.nb
  unfold fX1_countKnown fX12_knownMany
  rcases h.kb with ⟨a, b⟩ | ⟨q, q1, a, b⟩
  · rw [a, b, if_neg (by decide), if_pos rfl, h.nc, h.nr]
    exact ⟨n, by omega, rfl, rfl⟩
  · rw [a, b, if_pos (show (0 : Int32) ≤ zN q from Int32.not_lt.mp (znn (by omega))), if_neg (show ¬ (zN q = (-1 : Int32)) from by rw [zN_m1 (by omega)]; exact id)]
    exact ⟨q, q1, rfl, rfl⟩
theorem op36 {N : Nat} (hN : 1000 ≤ N) : OP36 Inv N := by
  intro mC mR x1 ⟨Z, o, nt, nu, nf, h⟩
  have h := h.th 0
  have hlo := h.lo
  have hz := h.od.zb
  unfold fX11_count fX12_count
  generalize mI mR 99 0 (0 : Int32) = R at h ⊢
  simp only [h.sp.1, hlo, if_true]
  have q : ∀ j k, j < 7 → k < 6 → mC.1 (43 + pc j) k = R.1 (pr j) (6 * 0 + k) := fun j k hj hk => h.nw.eq j k hj hk
  obtain ⟨s7, a7, b7⟩ := sum_rel (N := N) (c := 44) (r := 126) (s := 0) (by omega) (by omega) rfl rfl (fun k hk => q 0 k (by omega) hk)
  obtain ⟨s9, a9, b9⟩ := sum_rel (N := N) (c := 49) (r := 131) (s := 0) (by omega) (by omega) rfl rfl (fun k hk => q 4 k (by omega) hk)
  obtain ⟨s10, a10, b10⟩ := sum_rel (N := N) (c := 52) (r := 133) (s := 0) (by omega) (by omega) rfl rfl (fun k hk => q 6 k (by omega) hk)
  obtain ⟨s8, a8, b8⟩ := bathers_rel (N := N) (by omega) h
  obtain ⟨s13, _, a13, b13⟩ := known_rel h.fa
  rw [a7, a8, a9, a10, a13, show fX12_sumOf N 126 (0 : Int32) R = some s7 from b7, b8, show fX12_sumOf N 131 (0 : Int32) R = some s9 from b9, show fX12_sumOf N 133 (0 : Int32) R = some s10 from b10, b13]
  rw [show mC.1 (o + 1) 2 = R.1 101 0 from (h.od.sC 0 (by omega)).trans (h.od.sR 0 (by omega)).symm, show mC.1 (o + 3) 2 = R.1 101 1 from (h.od.sC 1 (by omega)).trans (h.od.sR 1 (by omega)).symm, show mC.1 (o + 5) 2 = R.1 101 2 from (h.od.sC 2 (by omega)).trans (h.od.sR 2 (by omega)).symm, show mC.1 (o + 7) 2 = R.1 101 3 from (h.od.sC 3 (by omega)).trans (h.od.sR 3 (by omega)).symm, show mC.1 (o + 9) 2 = R.1 101 4 from (h.od.sC 4 (by omega)).trans (h.od.sR 4 (by omega)).symm, h.od.kn, h.nw.mi, h.nw.so, h.fa.nc, h.fa.nr, h.ps.uc, h.ps.ur]
  simp only [b_some]
  have fin : ∀ x : Int32, ∃ (r : Int32) (mR2 : Mem), some x = some r ∧ some (x, R) = some (r, mR2) ∧ Inv mC mR2 := fun x => ⟨x, R, rfl, rfl, h.i⟩
  by_cases a0 : x1 = 0
  · rw [if_pos a0, if_pos a0]
    exact fin _
  rw [if_neg a0, if_neg a0]
  by_cases a0 : x1 = 1
  · rw [if_pos a0, if_pos a0]
    exact fin _
  rw [if_neg a0, if_neg a0]
  by_cases a0 : x1 = 2
  · rw [if_pos a0, if_pos a0]
    exact fin _
  rw [if_neg a0, if_neg a0]
  by_cases a0 : x1 = 3
  · rw [if_pos a0, if_pos a0]
    exact fin _
  rw [if_neg a0, if_neg a0]
  by_cases a0 : x1 = 4
  · rw [if_pos a0, if_pos a0]
    exact fin _
  rw [if_neg a0, if_neg a0]
  by_cases a0 : x1 = 5
  · rw [if_pos a0, if_pos a0]
    exact fin _
  rw [if_neg a0, if_neg a0]
  by_cases a0 : x1 = 6
  · rw [if_pos a0, if_pos a0]
    exact fin _
  rw [if_neg a0, if_neg a0]
  by_cases a0 : x1 = 7
  · rw [if_pos a0, if_pos a0]
    exact fin _
  rw [if_neg a0, if_neg a0]
  by_cases a0 : x1 = 8
  · rw [if_pos a0, if_pos a0]
    exact fin _
  rw [if_neg a0, if_neg a0]
  by_cases a0 : x1 = 9
  · rw [if_pos a0, if_pos a0]
    exact fin _
  rw [if_neg a0, if_neg a0]
  by_cases a0 : x1 = 10
  · rw [if_pos a0, if_pos a0]
    exact fin _
  rw [if_neg a0, if_neg a0]
  by_cases a0 : x1 = 11
  · rw [if_pos a0, if_pos a0]
    exact fin _
  rw [if_neg a0, if_neg a0]
  by_cases a0 : x1 = 12
  · rw [if_pos a0, if_pos a0]
    exact fin _
  rw [if_neg a0, if_neg a0]
  by_cases a0 : x1 = 13
  · rw [if_pos a0, if_pos a0]
    exact fin _
  rw [if_neg a0, if_neg a0]
  by_cases a0 : x1 = 14
  · rw [if_pos a0, if_pos a0]
    exact fin _
  rw [if_neg a0, if_neg a0]
  exact fin _
