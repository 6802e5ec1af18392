/-! bits; which facts hold -/
theorem sh10 : ∀ j, j < 10 → ((zN j &&& (31 : Int32)).toBitVec.smod 32).toNat = j ∧ (1 : Int32) <<< (zN j &&& (31 : Int32)) = zN (2 ^ j) := by decide +kernel
theorem bit10 {T j : Nat} (hT : T < 2147483648) (hj : j < 10) : (zN T >>> (zN j &&& (31 : Int32))) &&& (1 : Int32) = zN (T / 2 ^ j % 2) := by
  rw [zN_shr hT _ (sh10 j hj).1]
  exact zN_and (j := 1) (by omega) _ (by decide)
theorem or10 : ∀ g, g < 10 → ∀ a, a < 2 ^ g → zN a ||| zN (2 ^ g) = zN (a + 2 ^ g) := by decide +kernel
theorem zJ_shr {v n : Nat} (hv : v < 9223372036854775808) (x : Int64) (hx : (x.toBitVec.smod 64).toNat = n) : zJ v >>> x = zJ (v / 2 ^ n) := by
  have hle : v / 2 ^ n ≤ v := Nat.div_le_self _ _
  apply Int64.toInt_inj.mp
  rw [zJ_toInt (by omega)]
  show ((zJ v).toBitVec.sshiftRight (x.toBitVec.smod 64).toNat).toInt = _
  rw [hx, BitVec.toInt_sshiftRight]
  show (zJ v).toInt >>> n = _
  rw [zJ_toInt hv, Int.shiftRight_eq_div_pow]
  rfl
theorem sh60 : ∀ j, j < 61 → (((zN j).toInt64 &&& (63 : Int64)).toBitVec.smod 64).toNat = j ∧ (1 : Int64) <<< ((zN j).toInt64 &&& (63 : Int64)) = zJ (2 ^ j) := by decide +kernel
theorem bit60 {T j : Nat} (hT : T < 9223372036854775808) (hj : j < 61) : (zJ T >>> ((zN j).toInt64 &&& (63 : Int64))) &&& (1 : Int64) = zJ (T / 2 ^ j % 2) := by
  rw [zJ_shr hT _ (sh60 j hj).1]
  exact zJ_and (j := 1) (by omega) _ (by decide)
theorem orJ {a j : Nat} (hj : j < 61) (ha : a < 2 ^ j) : zJ a ||| zJ (2 ^ j) = zJ (a + 2 ^ j) := by
  have hp : (2 : Nat) ^ j ≤ 2 ^ 60 := Nat.pow_le_pow_right (by omega) (by omega)
  apply Int64.toBitVec_inj.1
  apply BitVec.eq_of_toNat_eq
  show ((BitVec.ofNat 64 a) ||| (BitVec.ofNat 64 (2 ^ j))).toNat = (BitVec.ofNat 64 (a + 2 ^ j)).toNat
  rw [BitVec.toNat_or, BitVec.toNat_ofNat, BitVec.toNat_ofNat, BitVec.toNat_ofNat, Nat.mod_eq_of_lt (a := a) (by omega), Nat.mod_eq_of_lt (a := 2 ^ j) (by omega), Nat.mod_eq_of_lt (a := a + 2 ^ j) (by omega), Nat.or_comm]
  have := Nat.two_pow_add_eq_or_of_lt ha 1
  rw [Nat.mul_one] at this
  rw [← this, Nat.add_comm]
/-- sums of bits -/
def bS (f : Nat → Bool) : Nat → Nat
  | 0 => 0
  | g + 1 => bS f g + (if f g = true then 2 ^ g else 0)
theorem bS_lt (f : Nat → Bool) : ∀ g, bS f g < 2 ^ g := by
  intro g
  induction g with
  | zero => exact Nat.zero_lt_one
  | succ g ih =>
    rw [bS, Nat.pow_succ]
    split <;> omega
theorem bS_bit (f : Nat → Bool) : ∀ n g, g < n → bS f n / 2 ^ g % 2 = if f g = true then 1 else 0 := by
  intro n
  induction n with
  | zero =>
    intro g h
    omega
  | succ n ih =>
    intro g h
    rw [bS]
    by_cases e : g = n
    · rw [e]
      have q := bS_lt f n
      have q0 : 0 < 2 ^ n := Nat.pow_pos (by omega)
      by_cases w : f n = true
      · rw [if_pos w, if_pos w, Nat.add_div_right _ q0, Nat.div_eq_of_lt q]
      · rw [if_neg w, if_neg w, Nat.add_zero, Nat.div_eq_of_lt q]
    · rw [← ih g (by omega)]
      by_cases w : f n = true
      · rw [if_pos w]
        obtain ⟨d, hd⟩ : ∃ d, n = g + 1 + d := ⟨n - g - 1, by omega⟩
        have q0 : 0 < 2 ^ g := Nat.pow_pos (by omega)
        rw [hd, Nat.pow_add, Nat.pow_succ, Nat.mul_assoc, Nat.add_mul_div_left _ _ q0, Nat.add_mul_mod_self_left]
      · rw [if_neg w, Nat.add_zero]
def FH (Z : Nat → Nat) (many : Nat) (C R : Mem) : Prop := (many ≤ 24) ∧ (fX12_knownMany R = some (zN many)) ∧ (∀ j, j < many → (C.1 82 j = 1 ∧ R.1 141 j = 0) ∨ (C.1 82 j = 0 ∧ R.1 141 j = 1)) ∧ (∀ j, many ≤ j → j < 24 → C.1 82 j = 0) ∧ (∀ j, j < many → FctR Z j C R)
theorem FH.mb {Z : Nat → Nat} {many : Nat} {C R : Mem} (h : FH Z many C R) : many ≤ 24 := h.1
theorem FH.km {Z : Nat → Nat} {many : Nat} {C R : Mem} (h : FH Z many C R) : fX12_knownMany R = some (zN many) := h.2.1
theorem FH.hd {Z : Nat → Nat} {many : Nat} {C R : Mem} (h : FH Z many C R) : ∀ j, j < many → (C.1 82 j = 1 ∧ R.1 141 j = 0) ∨ (C.1 82 j = 0 ∧ R.1 141 j = 1) := h.2.2.1
theorem FH.hi {Z : Nat → Nat} {many : Nat} {C R : Mem} (h : FH Z many C R) : ∀ j, many ≤ j → j < 24 → C.1 82 j = 0 := h.2.2.2.1
theorem FH.fc {Z : Nat → Nat} {many : Nat} {C R : Mem} (h : FH Z many C R) : ∀ j, j < many → FctR Z j C R := h.2.2.2.2
theorem FctR.cong {Z : Nat → Nat} {j : Nat} {C R C' R' : Mem} (h : FctR Z j C R) (hC : ∀ c k, 77 ≤ c → c ≤ 81 → C'.1 c k = C.1 c k) (hR : ∀ c k, 136 ≤ c → c ≤ 140 → R'.1 c k = R.1 c k) : FctR Z j C' R' := by
  unfold FctR at h ⊢
  rw [hC 81 _ (by omega) (by omega), hC 77 _ (by omega) (by omega), hC 78 _ (by omega) (by omega), hC 79 _ (by omega) (by omega), hC 80 _ (by omega) (by omega), hR 140 _ (by omega) (by omega), hR 139 _ (by omega) (by omega), hR 138 _ (by omega) (by omega), hR 137 _ (by omega) (by omega), hR 136 _ (by omega) (by omega)]
  exact h
theorem knownMany_c {R R' : Mem} (h58 : R'.1 99 58 = R.1 99 58) (h59 : R'.1 99 59 = R.1 99 59) : fX12_knownMany R' = fX12_knownMany R := by
  unfold fX12_knownMany
  rw [h58, h59]
theorem FH.cong {Z : Nat → Nat} {many : Nat} {C R C' R' : Mem} (h : FH Z many C R) (hC : ∀ c k, 77 ≤ c → c ≤ 82 → C'.1 c k = C.1 c k) (h58 : R'.1 99 58 = R.1 99 58) (h59 : R'.1 99 59 = R.1 99 59) (hR : ∀ c k, 136 ≤ c → c ≤ 141 → R'.1 c k = R.1 c k) : FH Z many C' R' := by
  refine ⟨h.mb, by rw [knownMany_c h58 h59]; exact h.km, fun j hj => ?_, fun j a b => ?_, fun j hj => (h.fc j hj).cong (fun c k a b => hC c k a (by omega)) (fun c k a b => hR c k a (by omega))⟩
  · rw [hC _ _ (by omega) (by omega), hR _ _ (by omega) (by omega)]
    exact h.hd j hj
  · rw [hC _ _ (by omega) (by omega)]
    exact h.hi j a b
theorem sift7 {N many : Nat} {k35 : Mem → Option Mem} (hm : many ≤ 24) : ∀ rem c n m, c + rem = 24 → rem < n → ∃ M, fX1_sift_7 N k35 n (zN many) (zN c) m = k35 M ∧ M.2 = m.2 ∧ ∀ q j, M.1 q j = if q = 82 ∧ c ≤ j ∧ j < 24 then (if j < many then 1 else 0) else m.1 q j := by
  intro rem
  induction rem with
  | zero =>
    intro c n m hc hn
    obtain ⟨n', rfl, _⟩ := fuel hn
    rw [fX1_sift_7, if_pos (show (24 : Int32) ≤ zN c from zle' (a := 24) (by omega) (by omega) (by omega))]
    exact ⟨m, rfl, rfl, fun q j => by rw [if_neg (by omega)]⟩
  | succ rem ih =>
    intro c n m hc hn
    obtain ⟨n', rfl, hn⟩ := fuel hn
    have E : fX1_sift_7 N k35 (n' + 1) (zN many) (zN c) m = fX1_sift_7 N k35 n' (zN many) (zN (c + 1)) (mI m 82 c (if c < many then 1 else 0)) := by
      rw [fX1_sift_7, if_neg (show ¬ ((24 : Int32) ≤ zN c) from zle (a := 24) (by omega) (by omega) (by omega))]
      by_cases q : c < many
      · rw [if_neg (zle (by omega) (by omega) q), if_pos q, g_in (by omega) (by omega), zN_cl (by omega), zN_s]
        rfl
      · rw [if_pos (zle' (by omega) (by omega) (by omega)), if_neg q, g_in (by omega) (by omega), zN_cl (by omega), zN_s]
        rfl
    rw [E]
    obtain ⟨M, h1, h2, h3⟩ := ih (c + 1) n' (mI m 82 c (if c < many then 1 else 0)) (by omega) (by omega)
    refine ⟨M, h1, h2, fun q j => ?_⟩
    rw [h3]
    by_cases p : q = 82 ∧ c ≤ j ∧ j < 24
    · rw [if_pos p]
      by_cases w : j = c
      · rw [if_neg (by omega), mI_s ⟨p.1, w⟩, w]
      · rw [if_pos (by omega)]
    · rw [if_neg p, if_neg (by omega), mI_n (by omega)]
theorem clr {N many : Nat} {x1 x2 : Int32} {k25 : Int32 → Int32 → Mem → Option (Int32 × Mem)} (hm : many ≤ 24) : ∀ rem c n m, c + rem = many → rem < n → fX12_knownMany m = some (zN many) → ∃ M, fX12_borneBy_4 N k25 n x1 x2 (zN c) m = k25 x1 x2 M ∧ ∀ q j, M.1 q j = if q = 141 ∧ c ≤ j ∧ j < many then 0 else m.1 q j := by
  intro rem
  induction rem with
  | zero =>
    intro c n m hc hn hk
    obtain ⟨n', rfl, _⟩ := fuel hn
    rw [fX12_borneBy_4, hk, b_some, if_pos (zle' (by omega) (by omega) (by omega))]
    exact ⟨m, rfl, fun q j => by rw [if_neg (by omega)]⟩
  | succ rem ih =>
    intro c n m hc hn hk
    obtain ⟨n', rfl, hn⟩ := fuel hn
    rw [fX12_borneBy_4, hk, b_some, if_neg (zle (by omega) (by omega) (by omega)), g_in (by omega) (by omega), zN_cl (by omega), zN_s, show vp_nar .boolean (0 : Int32) = 0 from rfl]
    obtain ⟨M, h1, h2⟩ := ih (c + 1) n' (mI m 141 c 0) (by omega) (by omega) (by rw [knownMany_c (mI_n (by omega)) (mI_n (by omega))]; exact hk)
    refine ⟨M, h1, fun q j => ?_⟩
    rw [h2]
    by_cases p : q = 141 ∧ c ≤ j ∧ j < many
    · rw [if_pos p]
      by_cases w : j = c
      · rw [if_neg (by omega), mI_s ⟨p.1, w⟩]
      · rw [if_pos (by omega)]
    · rw [if_neg p, if_neg (by omega), mI_n (by omega)]
theorem zdn (c : Nat) : zN (c + 1) + (-1 : Int32) = zN c := by
  rw [← Int32.sub_eq_add_neg, zN_p]
theorem sift_skip {N many : Nat} {C : Mem} (h : ∀ j, many ≤ j → j < 24 → C.1 82 j = 0) : ∀ d n, many + d ≤ 24 → d ≤ n → fX1_sift_38 N n (zN (many + d) + (-1 : Int32)) C = fX1_sift_38 N (n - d) (zN many + (-1 : Int32)) C := by
  intro d
  induction d with
  | zero =>
    intro n _ _
    rfl
  | succ d ih =>
    intro n hd hn
    obtain ⟨n', rfl, hn⟩ := fuel (show d < n by omega)
    rw [← Nat.add_assoc, zdn, fX1_sift_38, if_neg (znn (by omega)), g_in (by omega) (by omega), g_in (by omega) (by omega), zN_cl (by omega), h _ (by omega) (by omega), if_pos rfl, ih n' (by omega) (by omega), show n' + 1 - (d + 1) = n' - d from by omega]
theorem mark {Z : Nat → Nat} {N many : Nat} {x1 x2 : Int32} {k73 : Int32 → Int32 → Mem → Option (Int32 × Mem)} : ∀ c nC nR C R, c ≤ many → c < nC → c < nR → FH Z many C R → ∃ C' R', fX1_sift_38 N nC (zN c + (-1 : Int32)) C = some C' ∧ fX12_borneBy_32 N k73 nR x1 x2 (zN c + (-1 : Int32)) R = k73 x1 x2 R' ∧ FH Z many C' R' ∧ (∀ q j, q ≠ 82 → C'.1 q j = C.1 q j) ∧ C'.2 = C.2 ∧ (∀ q j, q ≠ 141 → R'.1 q j = R.1 q j) := by
  intro c
  induction c with
  | zero =>
    intro nC nR C R hc h1 h2 h
    obtain ⟨nC', rfl, _⟩ := fuel h1
    obtain ⟨nR', rfl, _⟩ := fuel h2
    rw [fX1_sift_38, fX12_borneBy_32, if_pos (by decide), if_pos (by decide)]
    exact ⟨C, R, rfl, rfl, h, fun _ _ _ => rfl, rfl, fun _ _ _ => rfl⟩
  | succ c ih =>
    intro nC nR C R hc h1 h2 h
    have hb := h.mb
    obtain ⟨nC', rfl, h1⟩ := fuel h1
    obtain ⟨nR', rfl, h2⟩ := fuel h2
    have hf := h.fc c (by omega)
    unfold FctR at hf
    rw [fX1_sift_38, fX12_borneBy_32, zdn, if_neg (znn (by omega)), if_neg (znn (by omega)), g_in (by omega) (by omega), g_in (by omega) (by omega), g_in (by omega) (by omega), zN_cl (by omega)]
    rcases h.hd c (by omega) with ⟨p1, p2⟩ | ⟨p1, p2⟩
    · rw [p1, p2, if_neg z10, if_pos rfl, hf.1, g_ii (by omega) (by omega)]
      rcases hf.2 with ⟨q, _⟩ | ⟨⟨f, q1, q2⟩, _⟩
      · rw [q, if_pos (by decide), if_pos rfl]
        exact ih nC' nR' C R (by omega) (by omega) (by omega) h
      · rw [q2, if_neg (znn (by omega)), if_neg (zle (by omega) (by omega) (by omega)), g_in (by omega) (by omega), if_neg (show ¬ (zN f = (-1 : Int32)) from by rw [zN_m1 (by omega)]; exact id), g_ii (by omega) (by omega), g_in (by omega) (by omega), zN_cl (by omega), show vp_nar .boolean (0 : Int32) = 0 from rfl, show vp_nar .boolean (1 : Int32) = 1 from rfl]
        have h' : FH Z many (mI C 82 f 0) (mI R 141 f 1) := by
          refine ⟨hb, by rw [knownMany_c (mI_n (by omega)) (mI_n (by omega))]; exact h.km, fun j hj => ?_, fun j a b => ?_, fun j hj => (h.fc j hj).cong (fun c k a b => mI_n (by omega)) (fun c k a b => mI_n (by omega))⟩
          · by_cases w : j = f
            · rw [w, mI_s ⟨rfl, rfl⟩, mI_s ⟨rfl, rfl⟩]
              exact Or.inr ⟨rfl, rfl⟩
            · rw [mI_n (by omega), mI_n (by omega)]
              exact h.hd j hj
          · rw [mI_n (by omega)]
            exact h.hi j a b
        obtain ⟨C', R', r1, r2, r3, r4, r5, r6⟩ := ih nC' nR' _ _ (by omega) (by omega) (by omega) h'
        refine ⟨C', R', r1, r2, r3, fun q j w => ?_, r5, fun q j w => ?_⟩
        · rw [r4 q j w, mI_n (by omega)]
        · rw [r6 q j w, mI_n (by omega)]
    · rw [p1, p2, if_pos rfl, if_neg z10]
      exact ih nC' nR' C R (by omega) (by omega) (by omega) h
/-- sift on both sides -/
theorem sift_rel {Z : Nat → Nat} {N nf : Nat} {x1 x2 : Int32} {mC mR : Mem} (hN : 100 ≤ N) (h : FacR Z nf mC mR) : ∃ many C R, FH Z many C R ∧ fX1_sift N mC = some C ∧ fX12_borneBy_4 N (fX12_borneBy_25 N) N x1 x2 (0 : Int32) mR = fX12_borneBy_73 N x1 x2 R ∧ (∀ q j, q ≠ 82 → C.1 q j = mC.1 q j) ∧ C.2 = mC.2 ∧ (∀ q j, q ≠ 141 → R.1 q j = mR.1 q j) := by
  obtain ⟨many, k1, k2, k3⟩ := known_rel h
  have hb := h.nb
  obtain ⟨C1, a1, a2, a3⟩ := sift7 (N := N) (many := many) (k35 := fX1_sift_35 N) (by omega) 24 0 N mC (by omega) (by omega)
  obtain ⟨R1, b1, b2⟩ := clr (N := N) (many := many) (x1 := x1) (x2 := x2) (k25 := fX12_borneBy_25 N) (by omega) many 0 N mR (by omega) (by omega) k3
  have kR : fX12_knownMany R1 = some (zN many) := by
    rw [knownMany_c (R := mR) (by rw [b2, if_neg (by omega)]) (by rw [b2, if_neg (by omega)])]
    exact k3
  have H : FH Z many C1 R1 := by
    refine ⟨by omega, kR, fun j hj => Or.inl ⟨?_, ?_⟩, fun j a b => ?_, fun j hj => (h.fc j (by omega)).cong (fun c k a b => ?_) (fun c k a b => ?_)⟩
    · rw [a3, if_pos (by omega), if_pos hj]
    · rw [b2, if_pos (by omega)]
    · rw [a3, if_pos (by omega), if_neg (by omega)]
    · rw [a3, if_neg (by omega)]
    · rw [b2, if_neg (by omega)]
  obtain ⟨C, R, c1, c2, c3, c4, c5, c6⟩ := mark (N := N) (x1 := x1) (x2 := x2) (k73 := fX12_borneBy_73 N) many (N - (24 - many)) N C1 R1 (by omega) (by omega) (by omega) H
  refine ⟨many, C, R, c3, ?_, ?_, fun q j w => ?_, c5.trans a2, fun q j w => ?_⟩
  · unfold fX1_sift
    rw [k2, b_some, show fX1_sift_7 N (fX1_sift_35 N) N (zN many) (0 : Int32) mC = _ from a1]
    unfold fX1_sift_35
    have S := sift_skip (N := N) (many := many) (C := C1) H.hi (24 - many) N (by omega) (by omega)
    rw [show many + (24 - many) = 24 from by omega] at S
    rw [show (23 : Int32) = zN 24 + (-1 : Int32) from by decide, S]
    exact c1
  · rw [show fX12_borneBy_4 N (fX12_borneBy_25 N) N x1 x2 (0 : Int32) mR = _ from b1]
    unfold fX12_borneBy_25
    rw [kR, b_some, Int32.sub_eq_add_neg]
    exact c2
  · rw [c4 q j w, a3, if_neg (by omega)]
  · rw [c6 q j w, b2, if_neg (by omega)]
theorem imax_zN {a b : Nat} (ha : a < 2147483648) (hb : b < 2147483648) : imax (zN a) (zN b) = zN (max a b) := by
  unfold imax
  by_cases q : a < b
  · rw [if_pos (show zN a < zN b from by rw [zN_lt ha hb]; exact q), Nat.max_eq_right (by omega)]
  · rw [if_neg (zlt ha hb (by omega)), Nat.max_eq_left (by omega)]
theorem last_hi {Z : Nat → Nat} {N many : Nat} {x : Int32} {C R : Mem} (h : FH Z many C R) : ∀ rem c n, c + rem = 24 → many ≤ c → rem < n → fX1_lastMinute_4 N n x (zN c) C = some x := by
  intro rem
  induction rem with
  | zero =>
    intro c n hc hm hn
    obtain ⟨n', rfl, _⟩ := fuel hn
    rw [fX1_lastMinute_4, if_pos (show (24 : Int32) ≤ zN c from zle' (a := 24) (by omega) (by omega) (by omega))]
  | succ rem ih =>
    intro c n hc hm hn
    obtain ⟨n', rfl, hn⟩ := fuel hn
    rw [fX1_lastMinute_4, if_neg (show ¬ ((24 : Int32) ≤ zN c) from zle (a := 24) (by omega) (by omega) (by omega)), g_in (by omega) (by omega), zN_cl (by omega), h.hi c hm (by omega), if_pos rfl, zN_s]
    exact ih (c + 1) n' (by omega) (by omega) (by omega)
theorem last_rel2 {Z : Nat → Nat} {N many : Nat} {x1 : Int32} {k119 : Int32 → Int32 → Mem → Option (Int32 × Mem)} {C R : Mem} (h : FH Z many C R) : ∀ rem c nC nR l, c + rem = many → rem + 24 < nC → rem < nR → l ≤ 60 → ∃ l', l ≤ l' ∧ l' ≤ 60 ∧ (∀ j v, c ≤ j → j < many → C.1 82 j = 1 → R.1 140 j = -1 → R.1 136 j = zN v → v ≤ 60 → v ≤ l') ∧ fX1_lastMinute_4 N nC (zN l) (zN c) C = some (zN l') ∧ fX12_borneBy_75 N k119 nR x1 (zN l) (zN c) R = k119 x1 (zN l') R := by
  have hb := h.mb
  intro rem
  induction rem with
  | zero =>
    intro c nC nR l hc h1 h2 hl
    obtain ⟨nR', rfl, _⟩ := fuel h2
    refine ⟨l, by omega, hl, fun j v a b => absurd b (by omega), last_hi h (24 - c) c nC (by omega) (by omega) (by omega), ?_⟩
    rw [fX12_borneBy_75, h.km, b_some, if_pos (zle' (by omega) (by omega) (by omega))]
  | succ rem ih =>
    intro c nC nR l hc h1 h2 hl
    obtain ⟨nC', rfl, h1⟩ := fuel (show rem + 24 < nC by omega)
    obtain ⟨nR', rfl, h2⟩ := fuel h2
    have hf := h.fc c (by omega)
    unfold FctR at hf
    rw [fX1_lastMinute_4, if_neg (show ¬ ((24 : Int32) ≤ zN c) from zle (a := 24) (by omega) (by omega) (by omega)), g_in (by omega) (by omega), zN_cl (by omega), fX12_borneBy_75, h.km, b_some, if_neg (zle (by omega) (by omega) (by omega)), g_in (by omega) (by omega), zN_cl (by omega), g_ii (by omega) (by omega), g_ii (by omega) (by omega), g_ii (by omega) (by omega), zN_s]
    rcases h.hd c (by omega) with ⟨p1, p2⟩ | ⟨p1, p2⟩
    · rw [p1, p2, if_neg z10, if_pos rfl]
      rcases hf.2 with ⟨q, ⟨v, v1, v2, v3, v4⟩, _⟩ | ⟨⟨f, q1, q2⟩, q3⟩
      · rw [q, if_pos rfl, v3, v4, imax_zN (by omega) (by omega)]
        obtain ⟨l', l1, l2, l3, l4, l5⟩ := ih (c + 1) nC' nR' (max l v) (by omega) (by omega) (by omega) (by omega)
        refine ⟨l', by omega, l2, fun j w a b e1 e2 e3 e4 => ?_, l4, l5⟩
        by_cases y : j = c
        · rw [y, v4, zN_eq (by omega) (by omega)] at e3
          omega
        · exact l3 j w (by omega) b e1 e2 e3 e4
      · rw [q2, if_neg (show ¬ (zN f = (-1 : Int32)) from by rw [zN_m1 (by omega)]; exact id), q3, show imax (zN l) 0 = zN l from by rw [show (0 : Int32) = zN 0 from rfl, imax_zN (by omega) (by omega), Nat.max_eq_left (by omega)]]
        obtain ⟨l', l1, l2, l3, l4, l5⟩ := ih (c + 1) nC' nR' l (by omega) (by omega) (by omega) hl
        refine ⟨l', l1, l2, fun j w a b e1 e2 e3 e4 => ?_, l4, l5⟩
        by_cases y : j = c
        · rw [y, q2, zN_m1 (by omega)] at e2
          exact e2.elim
        · exact l3 j w (by omega) b e1 e2 e3 e4
    · rw [p1, p2, if_pos rfl, if_neg z10]
      obtain ⟨l', l1, l2, l3, l4, l5⟩ := ih (c + 1) nC' nR' l (by omega) (by omega) (by omega) hl
      refine ⟨l', l1, l2, fun j w a b e1 e2 e3 e4 => ?_, l4, l5⟩
      by_cases y : j = c
      · rw [y, p1] at e1
        exact absurd e1 (by decide)
      · exact l3 j w (by omega) b e1 e2 e3 e4
theorem agree_hi {Z : Nat → Nat} {N many : Nat} {C R : Mem} (h : FH Z many C R) : ∀ rem c n, c + rem = 24 → many ≤ c → rem < n → fX1_agreeWith_2 N n 84 (zN c) C = some 1 := by
  intro rem
  induction rem with
  | zero =>
    intro c n hc hm hn
    obtain ⟨n', rfl, _⟩ := fuel hn
    rw [fX1_agreeWith_2, if_pos (show (24 : Int32) ≤ zN c from zle' (a := 24) (by omega) (by omega) (by omega))]
  | succ rem ih =>
    intro c n hc hm hn
    obtain ⟨n', rfl, hn⟩ := fuel hn
    rw [fX1_agreeWith_2, if_neg (show ¬ ((24 : Int32) ≤ zN c) from zle (a := 24) (by omega) (by omega) (by omega)), g_in (by omega) (by omega), g_in (by omega) (by omega), zN_cl (by omega), h.hi c hm (by omega), if_pos rfl, zN_s]
    exact ih (c + 1) n' (by omega) (by omega) (by omega)
theorem agree_loop {Z : Nat → Nat} {N many i : Nat} {C R : Mem} (h : FH Z many C R) (hz : Z 0 ≤ 6) (hi : i ≤ 1000) (em : C.1 84 9 = zN i) (es : ∀ k, k < 6 → C.1 90 k = R.1 131 (6 * 1 + k)) : ∀ rem c nC nR, c + rem = many → rem + 24 < nC → rem < nR → ∃ e, (e = 0 ∨ e = 1) ∧ fX1_agreeWith_2 N nC 84 (zN c) C = some e ∧ fX12_isSo_2 N nR (zN i) (zN c) R = some e ∧ ((∀ j, j < many → C.1 82 j = 1 → R.1 140 j = -1 → R.1 136 j ≠ zN i) → e = 1) := by
  have hb := h.mb
  intro rem
  induction rem with
  | zero =>
    intro c nC nR hc h1 h2
    obtain ⟨nR', rfl, _⟩ := fuel h2
    refine ⟨1, Or.inr rfl, agree_hi h (24 - c) c nC (by omega) (by omega) (by omega), ?_, fun _ => rfl⟩
    rw [fX12_isSo_2, h.km, b_some, if_pos (zle' (by omega) (by omega) (by omega))]
  | succ rem ih =>
    intro c nC nR hc h1 h2
    obtain ⟨nC', rfl, h1⟩ := fuel (show rem + 24 < nC by omega)
    obtain ⟨nR', rfl, h2⟩ := fuel h2
    have hf := h.fc c (by omega)
    unfold FctR at hf
    rw [fX1_agreeWith_2, if_neg (show ¬ ((24 : Int32) ≤ zN c) from zle (a := 24) (by omega) (by omega) (by omega)), g_in (k := c) (by omega) (by omega), g_in (k := c) (by omega) (by omega), g_in (k := c) (by omega) (by omega), g_in (k := c) (by omega) (by omega), zN_cl (n := c) (by omega), fX12_isSo_2, h.km, b_some, if_neg (zle (by omega) (by omega) (by omega)), g_in (k := c) (by omega) (by omega), zN_cl (n := c) (by omega), g_ii (k := c) (by omega) (by omega), g_ii (k := c) (by omega) (by omega), zN_s]
    rcases h.hd c (by omega) with ⟨p1, p2⟩ | ⟨p1, p2⟩
    · rw [p1, p2, if_neg z10, if_pos rfl, hf.1]
      rcases hf.2 with ⟨q, ⟨v, v1, v2, v3, v4⟩, ⟨k, k1, k2, k3⟩, s1, s2, s3⟩ | ⟨⟨f, q1, q2⟩, q3⟩
      · rw [q, if_neg (by decide), if_pos rfl, v3, v4, em]
        by_cases w : v = i
        · rw [w, if_pos rfl, if_pos rfl, k2, if_neg (znn (by omega)), if_neg (show ¬ ((6 : Int32) ≤ zN k) from zle (a := 6) (by omega) (by omega) (by omega)), g_in (k := k) (by omega) (by omega), g_ii (k := c) (by omega) (by omega), zN_cl (n := k) (by omega), show C.1 (84 + 6) k = _ from es k (by omega), s1, g_ii (k := c) (by omega) (by omega), k3, z6a, g_in (k := 6 * 1 + k) (by omega) (by omega), g_ii (k := c) (by omega) (by omega), zN_cl (n := 6 * 1 + k) (by omega)]
          obtain ⟨e, e1, e2, e3, e4⟩ := ih (c + 1) nC' nR' (by omega) (by omega) (by omega)
          have NO : ¬ (∀ j, j < many → C.1 82 j = 1 → R.1 140 j = -1 → R.1 136 j ≠ zN i) := fun z => z c (by omega) p1 q (by rw [v4, w])
          unfold fX1_agreeWith_76 fX12_isSo_70
          rw [g_in (k := c) (by omega) (by omega), g_in (k := c) (by omega) (by omega), g_in (k := c) (by omega) (by omega), g_in (k := c) (by omega) (by omega), zN_cl (n := c) (by omega), zN_s, s2]
          by_cases y : R.1 131 (6 * 1 + k) < R.1 138 c
          · rw [if_pos y, if_pos y]
            by_cases y2 : (0 : Int32) = R.1 139 c
            · rw [if_pos y2, if_pos y2]
              exact ⟨e, e1, e2, e3, e4⟩
            · rw [if_neg y2, if_neg y2]
              exact ⟨0, Or.inl rfl, rfl, rfl, fun z => absurd z NO⟩
          · rw [if_neg y, if_neg y]
            by_cases y2 : (1 : Int32) = R.1 139 c
            · rw [if_pos y2, if_pos y2]
              exact ⟨e, e1, e2, e3, e4⟩
            · rw [if_neg y2, if_neg y2]
              exact ⟨0, Or.inl rfl, rfl, rfl, fun z => absurd z NO⟩
        · rw [if_neg (zne (by omega) (by omega) w), if_neg (zne (by omega) (by omega) w), g_ii (by omega) (by omega)]
          exact ih (c + 1) nC' nR' (by omega) (by omega) (by omega)
      · rw [q2, if_pos (show (0 : Int32) ≤ zN f from zle' (a := 0) (by omega) (by omega) (by omega)), if_neg (show ¬ (zN f = (-1 : Int32)) from by rw [zN_m1 (by omega)]; exact id)]
        exact ih (c + 1) nC' nR' (by omega) (by omega) (by omega)
    · rw [p1, p2, if_pos rfl, if_neg z10]
      exact ih (c + 1) nC' nR' (by omega) (by omega) (by omega)
