/-! words and names -/
def wof (w : Nat) : Nat := [0, 7, 11, 15, 19, 24, 31, 36, 40, 45, 50, 55, 58, 62, 66, 71, 77, 82, 88, 95, 100, 107].getD w 0
def wln (w : Nat) : Nat := [6, 3, 3, 3, 4, 6, 4, 3, 4, 4, 4, 2, 3, 3, 4, 5, 4, 5, 6, 4, 6].getD w 0
def wvl (w : Nat) : Nat := [384081172, 693174272, 647626752, 102170624, 546837504, 214218856, 642945024, 404455424, 116895744, 169448448, 614044672, 522190848, 48365568, 486146048, 273731584, 72403552, 605498368, 659012736, 412764339, 418847744, 446125701].getD w 0
def wdg (w i : Nat) : Nat := wvl w / 2 ^ (5 * (5 - i)) % 32
theorem wvl_ok : ∀ w, w < 21 → wrdAt 106 w = zN (wvl w) ∧ wvl w < 1073741824 := by decide +kernel
theorem wch_ok : ∀ w, w < 21 → (∀ i, i < 6 → (i < wln w → chS 1 (wof w + i) = zN (96 + wdg w i) ∧ 1 ≤ wdg w i ∧ wdg w i ≤ 26) ∧ (wln w ≤ i → wdg w i = 0)) ∧ chS 1 (wof w + wln w) = 32 ∧ wof (w + 1) = wof w + wln w + 1 ∧ wln w ≤ 6 ∧ wof w + wln w < 107 := by decide +kernel
theorem lenS1 : lenS 1 = 107 := rfl
theorem zN_orN {x y : Nat} (hx : x < 2147483648) (hy : y < 2147483648) : zN x ||| zN y = zN (x ||| y) := by
  have ho : x ||| y < 2 ^ 31 := Nat.or_lt_two_pow (by omega) (by omega)
  apply Int32.toBitVec_inj.1
  apply BitVec.eq_of_toNat_eq
  show ((BitVec.ofNat 32 x) ||| (BitVec.ofNat 32 y)).toNat = (BitVec.ofNat 32 (x ||| y)).toNat
  rw [BitVec.toNat_or, BitVec.toNat_ofNat, BitVec.toNat_ofNat, BitVec.toNat_ofNat, Nat.mod_eq_of_lt (a := x) (by omega), Nat.mod_eq_of_lt (a := y) (by omega), Nat.mod_eq_of_lt (a := x ||| y) (by omega)]
theorem zN_or2 {a b i : Nat} (hb : b < 2 ^ i) (h : 2 ^ i * a + b < 2147483648) : zN (2 ^ i * a) ||| zN b = zN (2 ^ i * a + b) := by
  rw [zN_orN (by omega) (by omega), Nat.two_pow_add_eq_or_of_lt hb]
def pu (bt : Nat → Nat) (p : Nat) : Nat → Nat
  | 0 => 0
  | d + 1 => 32 * pu bt p d + (bt (p + d) - 96)
theorem pu_lt {bt : Nat → Nat} {p : Nat} : ∀ d, (∀ i, i < d → isL (bt (p + i)) = true) → pu bt p d < 2 ^ (5 * d) := by
  intro d
  induction d with
  | zero => exact fun _ => Nat.zero_lt_one
  | succ d ih =>
    intro h
    have q := ih (fun i hi => h i (by omega))
    have w : 97 ≤ bt (p + d) ∧ bt (p + d) ≤ 122 := of_decide_eq_true (h d (by omega))
    rw [pu, show 5 * (d + 1) = 5 * d + 5 from by omega, Nat.pow_add]
    omega
def vW (bt : Nat → Nat) (p d : Nat) : Nat := if d ≤ 6 then 2 ^ (5 * (6 - d)) * pu bt p d else pu bt p 6
theorem plc_dec : ∀ d, d < 6 → ∀ e, e < 26 → (((zN (97 + e) - (97 : Int32)) + (1 : Int32)) <<< (((5 : Int32) * ((5 : Int32) - zN d)) &&& 31)) = zN ((e + 1) * 2 ^ (5 * (5 - d))) := by decide +kernel
theorem plc_or {bt : Nat → Nat} {p d : Nat} (h : ∀ i, i < d + 1 → isL (bt (p + i)) = true) (m : Mem) : ∃ x, fX10_placed (zN (bt (p + d))) (zN d) m = some x ∧ (d ≤ 1000 → zN (vW bt p d) ||| x = zN (vW bt p (d + 1))) := by
  have w : 97 ≤ bt (p + d) ∧ bt (p + d) ≤ 122 := of_decide_eq_true (h d (by omega))
  unfold fX10_placed
  by_cases q : d < 6
  · rw [if_neg (show ¬ ((6 : Int32) ≤ zN d) from fun z => by
      have z : zN 6 ≤ zN d := z
      rw [zN_le (by omega) (by omega)] at z
      omega)]
    have P := plc_dec d q (bt (p + d) - 97) (by omega)
    rw [show 97 + (bt (p + d) - 97) = bt (p + d) from by omega, show bt (p + d) - 97 + 1 = bt (p + d) - 96 from by omega] at P
    refine ⟨_, rfl, fun _ => ?_⟩
    rw [P]
    have L := pu_lt (bt := bt) (p := p) d (fun i hi => h i (by omega))
    unfold vW
    rw [if_pos (by omega), if_pos (by omega), pu, show 5 * (6 - d) = 5 * (5 - d) + 5 from by omega, show 5 * (6 - (d + 1)) = 5 * (5 - d) from by omega]
    have hx : (bt (p + d) - 96) * 2 ^ (5 * (5 - d)) < 2 ^ (5 * (5 - d) + 5) := by
      rw [Nat.pow_add, Nat.mul_comm]
      exact Nat.mul_lt_mul_of_pos_left (by omega) (Nat.pow_pos (by omega))
    have hs : 2 ^ (5 * (5 - d) + 5) * pu bt p d + (bt (p + d) - 96) * 2 ^ (5 * (5 - d)) = 2 ^ (5 * (5 - d)) * (32 * pu bt p d + (bt (p + d) - 96)) := by
      rw [Nat.pow_add, Nat.mul_add, Nat.mul_assoc, Nat.mul_comm (bt (p + d) - 96)]
    have L1 := pu_lt (bt := bt) (p := p) (d + 1) h
    rw [pu] at L1
    have tot : 2 ^ (5 * (5 - d)) * (32 * pu bt p d + (bt (p + d) - 96)) < 2147483648 := by
      have : 2 ^ (5 * (5 - d)) * (32 * pu bt p d + (bt (p + d) - 96)) < 2 ^ (5 * (5 - d)) * 2 ^ (5 * (d + 1)) := Nat.mul_lt_mul_of_pos_left L1 (Nat.pow_pos (by omega))
      rw [← Nat.pow_add, show 5 * (5 - d) + 5 * (d + 1) = 30 from by omega] at this
      omega
    rw [zN_or2 hx (by rw [hs]; exact tot), hs]
  · by_cases y : d ≤ 1000
    · rw [if_pos (show (6 : Int32) ≤ zN d from zle' (a := 6) (by omega) (by omega) (by omega))]
      refine ⟨0, rfl, fun _ => ?_⟩
      rw [Int32.or_zero]
      unfold vW
      rw [if_neg (show ¬ (d + 1 ≤ 6) by omega)]
      by_cases z : d = 6
      · rw [z, if_pos (by omega)]
        rw [show 2 ^ (5 * (6 - 6)) * pu bt p 6 = pu bt p 6 from by rw [show 2 ^ (5 * (6 - 6)) = 1 from rfl, Nat.one_mul]]
      · rw [if_neg (by omega)]
    · by_cases z : (6 : Int32) ≤ zN d
      · rw [if_pos z]
        exact ⟨0, rfl, fun w => absurd w y⟩
      · rw [if_neg z]
        exact ⟨_, rfl, fun w => absurd w y⟩
theorem lets {N n p : Nat} {bt : Nat → Nat} {k53 : Int32 → Mem → Option Mem} {k87 : Mem → Option Mem} : ∀ rem d nC nR mC mR, p + d + rem = n → rem < nC → rem < nR → TkB n bt mC mR → mC.1 5 6 = zN (vW bt p d) → mR.1 99 26 = zN (p + d) → (∀ i, i < d → isL (bt (p + i)) = true) → ∃ L MC MR, d ≤ L ∧ p + L ≤ n ∧ (p + d < n → isL (bt (p + d)) = true → d < L) ∧ (∀ i, i < L → isL (bt (p + i)) = true) ∧ fX10_takeWord_7 N k53 nC (zN d) (zN (p + d)) mC = k53 (zN L) MC ∧ fX12_token_64 N k87 nR mR = k87 MR ∧ MC.1 5 6 = zN (vW bt p L) ∧ MR.1 99 26 = zN (p + L) ∧ (∀ c k, ¬ (c = 5 ∧ k = 6) → MC.1 c k = mC.1 c k) ∧ MC.2 = mC.2 ∧ (∀ c k, ¬ (c = 99 ∧ k = 26) → MR.1 c k = mR.1 c k) := by
  intro rem
  induction rem with
  | zero =>
    intro d nC nR mC mR hp h1 h2 h e1 e2 hl
    have hn := h.hn
    obtain ⟨nC', rfl, _⟩ := fuel h1
    obtain ⟨nR', rfl, _⟩ := fuel h2
    rw [fX10_takeWord_7, h.ec, if_pos (zle' (by omega) (by omega) (by omega)), fX12_token_64, here_ok h (p := p + d) (by omega) e2, b_some, (let_ok (m := mC) h).2, b_some, if_neg (show ¬ (p + d < n ∧ isL (bt (p + d)) = true) from by omega), if_pos rfl]
    exact ⟨d, mC, mR, by omega, by omega, fun z => absurd z (by omega), hl, rfl, rfl, e1, e2, fun _ _ _ => rfl, rfl, fun _ _ _ => rfl⟩
  | succ rem ih =>
    intro d nC nR mC mR hp h1 h2 h e1 e2 hl
    have hn := h.hn
    obtain ⟨nC', rfl, h1⟩ := fuel h1
    obtain ⟨nR', rfl, h2⟩ := fuel h2
    have hlt : p + d < n := by omega
    rw [fX10_takeWord_7, h.ec, if_neg (zle (by omega) (by omega) (by omega)), byteAt_ok h (by omega), b_some, (let_ok (m' := mR) h).1, b_some, b_some, fX12_token_64, here_ok h (p := p + d) (by omega) e2, b_some, (let_ok (m := mC) h).2, b_some]
    by_cases q : isL (bt (p + d)) = true
    · have hl' : ∀ i, i < d + 1 → isL (bt (p + i)) = true := fun i hi => by
        by_cases y : i = d
        · rw [y]
          exact q
        · exact hl i (by omega)
      obtain ⟨x, x1, x2⟩ := plc_or hl' mC
      have eh : hbt n bt (p + d) = zN (bt (p + d)) := by
        unfold hbt
        rw [if_pos hlt]
      rw [if_pos (show p + d < n ∧ isL (bt (p + d)) = true from ⟨hlt, q⟩), if_neg z10, if_neg z10, eh, x1, b_some, e1, x2 (by omega), e2, zN_s, zN_s]
      obtain ⟨L, MC, MR, r1, r2, r3, r4, r5, r6, r7, r8, r9, r10, r11⟩ := ih (d + 1) nC' nR' (mI mC 5 6 (zN (vW bt p (d + 1)))) (mI mR 99 26 (zN (p + d + 1))) (by omega) (by omega) (by omega) ((h.c (by omega)).r (by omega)) (mI_s ⟨rfl, rfl⟩) (mI_s ⟨rfl, rfl⟩) hl'
      exact ⟨L, MC, MR, by omega, r2, fun _ _ => by omega, r4, r5, r6, r7, r8, fun c k w => by rw [r9 c k w, mI_n (by omega)], r10, fun c k w => by rw [r11 c k w, mI_n (by omega)]⟩
    · rw [if_neg (show ¬ (p + d < n ∧ isL (bt (p + d)) = true) from fun z => q z.2), if_pos rfl, if_pos rfl]
      exact ⟨d, mC, mR, by omega, by omega, fun _ z => absurd z q, hl, rfl, rfl, e1, e2, fun _ _ _ => rfl, rfl, fun _ _ _ => rfl⟩
/-! the words of the text -/
def mtch (bt : Nat → Nat) (p L w : Nat) : Prop := wln w = L ∧ ∀ i, i < wln w → bt (p + i) = 96 + wdg w i
theorem wcmp {N p L w : Nat} {bt : Nat → Nat} {m : Mem} {k69 : Int32 → Int32 → Int32 → Mem → Option Int32} (hw : w < 21) (hp : p + L ≤ 700) (e26 : m.1 99 26 = zN (p + L)) (e27 : m.1 99 27 = zN p) (hb : ∀ i, i < L → bt (p + i) < 256 ∧ m.1 100 (p + i) = zN (bt (p + i))) : ∀ rem i n, i + rem = wln w → rem < n → i ≤ L → (∀ i', i' < i → bt (p + i') = 96 + wdg w i') → ∃ i', i' ≤ wln w ∧ i' ≤ L ∧ fX12_word_15 N k69 n (zN w) (zN (wof w)) (zN i) m = k69 (zN w) (zN (wof w)) (zN i') m ∧ ((i' = wln w ∧ i' = L) ↔ mtch bt p L w) := by
  obtain ⟨c1, c2, c3, c4, c5⟩ := wch_ok w hw
  intro rem
  induction rem with
  | zero =>
    intro i n hi hn hL hm
    obtain ⟨n', rfl, _⟩ := fuel hn
    have ei : i = wln w := by omega
    rw [fX12_word_15, zN_add, g_in (by rw [lenS1]; omega) (by rw [lenS1]; omega), zN_cl (by omega), ei, c2, if_pos rfl]
    refine ⟨wln w, by omega, by omega, rfl, ⟨fun z => ⟨z.2, fun i' hi' => hm i' (by omega)⟩, fun z => ⟨rfl, z.1⟩⟩⟩
  | succ rem ih =>
    intro i n hi hn hL hm
    obtain ⟨n', rfl, hn⟩ := fuel hn
    obtain ⟨d1, d2, d3⟩ := (c1 i (by omega)).1 (by omega)
    rw [fX12_word_15, zN_add, g_in (by rw [lenS1]; omega) (by rw [lenS1]; omega), zN_cl (by omega), d1, if_neg (show ¬ (zN (96 + wdg w i) = (32 : Int32)) from zne (c := 32) (by omega) (by omega) (by omega)), e26, e27, zN_add]
    by_cases q : i < L
    · rw [if_neg (zle (by omega) (by omega) (by omega)), g_in (k := p + i) (by omega) (by omega), zN_cl (n := p + i) (by omega), g_ii (k := wof w + i) (by rw [lenS1]; omega) (by rw [lenS1]; omega), (hb i q).2]
      have hbi := (hb i q).1
      by_cases y : bt (p + i) = 96 + wdg w i
      · rw [if_pos (by rw [y]), zN_s]
        exact ih (i + 1) n' (by omega) (by omega) (by omega) (fun i' hi' => by
          by_cases z : i' = i
          · rw [z]
            exact y
          · exact hm i' (by omega))
      · rw [if_neg (zne (by omega) (by omega) y)]
        exact ⟨i, by omega, by omega, rfl, ⟨fun z => by omega, fun z => absurd (z.2 i (by omega)) y⟩⟩
    · rw [if_pos (zle' (by omega) (by omega) (by omega))]
      exact ⟨i, by omega, by omega, rfl, ⟨fun z => by omega, fun z => by have := z.1; omega⟩⟩
theorem wskip {N w : Nat} {m : Mem} {k114 : Int32 → Int32 → Mem → Option Int32} {x : Int32} (hw : w < 21) : ∀ rem i n, i + rem = wln w → rem < n → fX12_word_97 N k114 n x (zN (wof w + i)) m = k114 x (zN (wof w + wln w)) m := by
  obtain ⟨c1, c2, c3, c4, c5⟩ := wch_ok w hw
  intro rem
  induction rem with
  | zero =>
    intro i n hi hn
    obtain ⟨n', rfl, _⟩ := fuel hn
    have ei : i = wln w := by omega
    rw [fX12_word_97, g_in (by rw [lenS1]; omega) (by rw [lenS1]; omega), zN_cl (by omega), ei, c2, if_pos rfl]
  | succ rem ih =>
    intro i n hi hn
    obtain ⟨n', rfl, hn⟩ := fuel hn
    obtain ⟨d1, d2, d3⟩ := (c1 i (by omega)).1 (by omega)
    rw [fX12_word_97, g_in (by rw [lenS1]; omega) (by rw [lenS1]; omega), zN_cl (by omega), d1, if_neg (show ¬ (zN (96 + wdg w i) = (32 : Int32)) from zne (c := 32) (by omega) (by omega) (by omega)), zN_s]
    exact ih (i + 1) n' (by omega) (by omega)
theorem wstep {N p L w : Nat} {bt : Nat → Nat} {m : Mem} {k4 : Int32 → Int32 → Mem → Option Int32} (hN : 100 ≤ N) (hw : w < 21) (hp : p + L ≤ 700) (e26 : m.1 99 26 = zN (p + L)) (e27 : m.1 99 27 = zN p) (hb : ∀ i, i < L → bt (p + i) < 256 ∧ m.1 100 (p + i) = zN (bt (p + i))) : (mtch bt p L w → fX12_word_15 N (fX12_word_69 N k4) N (zN w) (zN (wof w)) (0 : Int32) m = some (zN w)) ∧ (¬ mtch bt p L w → fX12_word_15 N (fX12_word_69 N k4) N (zN w) (zN (wof w)) (0 : Int32) m = k4 (zN (w + 1)) (zN (wof (w + 1))) m) := by
  obtain ⟨c1, c2, c3, c4, c5⟩ := wch_ok w hw
  obtain ⟨i, i1, i2, i3, i4⟩ := wcmp (N := N) (k69 := fX12_word_69 N k4) hw hp e26 e27 hb (wln w) 0 N (by omega) (by omega) (by omega) (fun i' z => absurd z (by omega))
  have S : fX12_word_97 N (fX12_word_114 N k4) N (zN w) (zN (wof w)) m = k4 (zN (w + 1)) (zN (wof (w + 1))) m := by
    have := wskip (N := N) (m := m) (k114 := fX12_word_114 N k4) (x := zN w) hw (wln w) 0 N (by omega) (by omega)
    rw [Nat.add_zero] at this
    rw [this]
    unfold fX12_word_114
    rw [zN_s, zN_s, c3]
  rw [show fX12_word_15 N (fX12_word_69 N k4) N (zN w) (zN (wof w)) (0 : Int32) m = _ from i3]
  unfold fX12_word_69
  rw [zN_add, g_in (by rw [lenS1]; omega) (by rw [lenS1]; omega), zN_cl (by omega), S, e26, e27, zN_add]
  refine ⟨fun z => ?_, fun z => ?_⟩
  · have w1 := i4.mpr z
    rw [w1.1, c2, if_pos rfl, if_pos (by rw [← w1.1, w1.2])]
  · by_cases q : i = wln w
    · rw [q, c2, if_pos rfl, if_neg (show ¬ (zN (p + wln w) = zN (p + L)) from zne (by omega) (by omega) (fun y => z (i4.mp ⟨q, by omega⟩)))]
    · obtain ⟨d1, d2, d3⟩ := (c1 i (by omega)).1 (by omega)
      rw [d1, if_neg (show ¬ (zN (96 + wdg w i) = (32 : Int32)) from zne (c := 32) (by omega) (by omega) (by omega))]
theorem dig_eq {bt : Nat → Nat} {p L y : Nat} (hL : L ≤ 6) (h : ∀ i, i < L → isL (bt (p + i)) = true) (hy : y < 1073741824) : 2 ^ (5 * (6 - L)) * pu bt p L = y ↔ (∀ i, i < L → bt (p + i) - 96 = y / 2 ^ (5 * (5 - i)) % 32) ∧ (∀ i, L ≤ i → i < 6 → y / 2 ^ (5 * (5 - i)) % 32 = 0) := by
  have hc : ∀ i, i < L → 1 ≤ bt (p + i) - 96 ∧ bt (p + i) - 96 ≤ 26 := fun i hi => by
    have w : 97 ≤ bt (p + i) ∧ bt (p + i) ≤ 122 := of_decide_eq_true (h i hi)
    omega
  have six : ∀ P : Nat → Prop, (∀ i, i < 6 → P i) ↔ P 0 ∧ P 1 ∧ P 2 ∧ P 3 ∧ P 4 ∧ P 5 := fun P => ⟨fun z => ⟨z 0 (by omega), z 1 (by omega), z 2 (by omega), z 3 (by omega), z 4 (by omega), z 5 (by omega)⟩, fun z i hi => by
    have : i = 0 ∨ i = 1 ∨ i = 2 ∨ i = 3 ∨ i = 4 ∨ i = 5 := by omega
    rcases this with rfl | rfl | rfl | rfl | rfl | rfl
    · exact z.1
    · exact z.2.1
    · exact z.2.2.1
    · exact z.2.2.2.1
    · exact z.2.2.2.2.1
    · exact z.2.2.2.2.2⟩
  have E : ((∀ i, i < L → bt (p + i) - 96 = y / 2 ^ (5 * (5 - i)) % 32) ∧ (∀ i, L ≤ i → i < 6 → y / 2 ^ (5 * (5 - i)) % 32 = 0)) ↔ (∀ i, i < 6 → (if i < L then bt (p + i) - 96 else 0) = y / 2 ^ (5 * (5 - i)) % 32) := by
    refine ⟨fun z i hi => ?_, fun z => ⟨fun i hi => ?_, fun i a b => ?_⟩⟩
    · by_cases q : i < L
      · rw [if_pos q]
        exact z.1 i q
      · rw [if_neg q, z.2 i (by omega) hi]
    · have := z i (by omega)
      rw [if_pos hi] at this
      exact this
    · have := z i b
      rw [if_neg (by omega)] at this
      exact this.symm
  rw [E, six]
  have : L = 0 ∨ L = 1 ∨ L = 2 ∨ L = 3 ∨ L = 4 ∨ L = 5 ∨ L = 6 := by omega
  rcases this with rfl | rfl | rfl | rfl | rfl | rfl | rfl
  · simp only [pu]
    simp
    omega
  · have c0 := hc 0 (by omega)
    simp only [pu]
    simp at c0 ⊢
    omega
  · have c0 := hc 0 (by omega)
    have c1 := hc 1 (by omega)
    simp only [pu]
    simp at c0 c1 ⊢
    omega
  · have c0 := hc 0 (by omega)
    have c1 := hc 1 (by omega)
    have c2 := hc 2 (by omega)
    simp only [pu]
    simp at c0 c1 c2 ⊢
    omega
  · have c0 := hc 0 (by omega)
    have c1 := hc 1 (by omega)
    have c2 := hc 2 (by omega)
    have c3 := hc 3 (by omega)
    simp only [pu]
    simp at c0 c1 c2 c3 ⊢
    omega
  · have c0 := hc 0 (by omega)
    have c1 := hc 1 (by omega)
    have c2 := hc 2 (by omega)
    have c3 := hc 3 (by omega)
    have c4 := hc 4 (by omega)
    simp only [pu]
    simp at c0 c1 c2 c3 c4 ⊢
    omega
  · have c0 := hc 0 (by omega)
    have c1 := hc 1 (by omega)
    have c2 := hc 2 (by omega)
    have c3 := hc 3 (by omega)
    have c4 := hc 4 (by omega)
    have c5 := hc 5 (by omega)
    simp only [pu]
    simp at c0 c1 c2 c3 c4 c5 ⊢
    omega
theorem mtch_iff {bt : Nat → Nat} {p L w : Nat} (hw : w < 21) (hL : L ≤ 6) (h : ∀ i, i < L → isL (bt (p + i)) = true) : mtch bt p L w ↔ wvl w = vW bt p L := by
  obtain ⟨c1, c2, c3, c4, c5⟩ := wch_ok w hw
  have hb : ∀ i, i < L → 97 ≤ bt (p + i) ∧ bt (p + i) ≤ 122 := fun i hi => of_decide_eq_true (h i hi)
  unfold vW mtch
  rw [if_pos hL]
  rw [show (wvl w = 2 ^ (5 * (6 - L)) * pu bt p L) = (2 ^ (5 * (6 - L)) * pu bt p L = wvl w) from propext ⟨Eq.symm, Eq.symm⟩, dig_eq hL h (wvl_ok w hw).2]
  refine ⟨fun z => ⟨fun i hi => ?_, fun i a b => ?_⟩, fun z => ?_⟩
  · have := z.2 i (by omega)
    rw [this]
    unfold wdg
    omega
  · exact (c1 i b).2 (by omega)
  · have e : wln w = L := by
      by_cases q1 : L < wln w
      · have a := ((c1 L (by omega)).1 q1).2.1
        have b := z.2 L (by omega) (by omega)
        unfold wdg at a
        omega
      · by_cases q2 : wln w < L
        · have a := (c1 (wln w) (by omega)).2 (by omega)
          have b := z.1 (wln w) q2
          have d := hb (wln w) q2
          unfold wdg at a
          omega
        · omega
    refine ⟨e, fun i hi => ?_⟩
    have a := z.1 i (by omega)
    have d := hb i (by omega)
    unfold wdg
    omega
