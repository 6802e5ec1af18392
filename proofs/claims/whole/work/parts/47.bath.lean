/-! what a minute is made of: ease, mixing, drawing, getting in and out -/
theorem zN_shr {v n : Nat} (hv : v < 2147483648) (x : Int32) (hx : (x.toBitVec.smod 32).toNat = n) : zN v >>> x = zN (v / 2 ^ n) := by
  have hle : v / 2 ^ n ≤ v := Nat.div_le_self _ _
  apply Int32.toInt_inj.mp
  rw [zN_toInt (by omega)]
  show ((zN v).toBitVec.sshiftRight (x.toBitVec.smod 32).toNat).toInt = _
  rw [hx, BitVec.toInt_sshiftRight]
  show (zN v).toInt >>> n = _
  rw [zN_toInt hv, Int.shiftRight_eq_div_pow]
  rfl
theorem zN_and {j n : Nat} (hj : j ≤ 31) (x : Int32) (hx : x.toBitVec.toNat = 2 ^ j - 1) : zN n &&& x = zN (n % 2 ^ j) := by
  apply Int32.toBitVec_inj.1
  apply BitVec.eq_of_toNat_eq
  show ((BitVec.ofNat 32 n) &&& x.toBitVec).toNat = (BitVec.ofNat 32 (n % 2 ^ j)).toNat
  have hp : 2 ^ j ≤ 2 ^ 31 := Nat.pow_le_pow_right (by omega) hj
  have hl : n % 2 ^ j < 2 ^ j := Nat.mod_lt _ (Nat.pow_pos (by omega))
  rw [BitVec.toNat_and, hx, BitVec.toNat_ofNat, BitVec.toNat_ofNat, Nat.and_two_pow_sub_one_eq_mod, Nat.mod_mod_of_dvd _ (Nat.pow_dvd_pow 2 (by omega)), Nat.mod_eq_of_lt (a := n % 2 ^ j) (by omega)]
theorem zJ_and {j n : Nat} (hj : j ≤ 63) (x : Int64) (hx : x.toBitVec.toNat = 2 ^ j - 1) : zJ n &&& x = zJ (n % 2 ^ j) := by
  apply Int64.toBitVec_inj.1
  apply BitVec.eq_of_toNat_eq
  show ((BitVec.ofNat 64 n) &&& x.toBitVec).toNat = (BitVec.ofNat 64 (n % 2 ^ j)).toNat
  have hp : 2 ^ j ≤ 2 ^ 63 := Nat.pow_le_pow_right (by omega) hj
  have hl : n % 2 ^ j < 2 ^ j := Nat.mod_lt _ (Nat.pow_pos (by omega))
  rw [BitVec.toNat_and, hx, BitVec.toNat_ofNat, BitVec.toNat_ofNat, Nat.and_two_pow_sub_one_eq_mod, Nat.mod_mod_of_dvd _ (Nat.pow_dvd_pow 2 (by omega)), Nat.mod_eq_of_lt (a := n % 2 ^ j) (by omega)]
theorem zJ_add (a b : Nat) : zJ a + zJ b = zJ (a + b) := (Int64.ofNat_add a b).symm
theorem zJ_mul (a b : Nat) : zJ a * zJ b = zJ (a * b) := (Int64.ofNat_mul a b).symm
theorem zJ_div {a b : Nat} (ha : a < 9223372036854775808) (hb : b < 9223372036854775808) : zJ a / zJ b = zJ (a / b) := (Int64.ofNat_div ha hb).symm
theorem zJ_32 (a : Nat) : (zJ a).toInt32 = zN a := Int64.toInt32_ofNat'
theorem zN_64 {a : Nat} (h : a < 2147483648) : (zN a).toInt64 = zJ a := Int32.toInt64_ofNat' (by
  rw [show Int32.maxValue.toInt = 2147483647 from rfl]
  omega)
theorem imax0 {h l : Nat} (hh : h < 2147483648) (hl : l < 2147483648) : imax (0 : Int32) (zN h - zN l) = zN (h - l) := by
  unfold imax
  by_cases q : l ≤ h
  · rw [zN_sub q]
    by_cases z : (0 : Int32) < zN (h - l)
    · rw [if_pos z]
    · rw [if_neg z]
      have z : ¬ (zN 0 < zN (h - l)) := z
      rw [zN_lt (by omega) (by omega)] at z
      rw [show h - l = 0 by omega]
      rfl
  · rw [if_neg, show h - l = 0 by omega]
    · rfl
    · rw [Int32.lt_iff_toInt_lt, i_sub, zN_toInt hh, zN_toInt hl]
      · rw [show (0 : Int32).toInt = 0 from rfl]
        omega
      · rw [zN_toInt hh, zN_toInt hl]
        omega
      · rw [zN_toInt hh, zN_toInt hl]
        omega
theorem plain_ok : ∀ h, h < 991 → (0 : Int32) ≤ imax (0 : Int32) ((zN h - (200 : Int32)) / (50 : Int32)) ∧ imax (0 : Int32) ((zN h - (200 : Int32)) / (50 : Int32)) ≤ (99 : Int32) := by decide +kernel
theorem Bd_of {x : Int32} {hi : Nat} (hh : hi < 2147483648) (h1 : (0 : Int32) ≤ x) (h2 : x ≤ zN hi) : Bd x 0 hi := by
  obtain ⟨n, hn, rfl⟩ := zN_of h1
  rw [zN_le hn hh] at h2
  exact ⟨n, by omega, h2, rfl⟩
/-- a long held between two ints, as both do it -/
theorem within_eq {w : Int64} {lo hi : Int32} (h : lo.toInt ≤ hi.toInt) (m : Mem) : fX5_within w lo hi m = some (lmax lo.toInt64 (lmin hi.toInt64 w)).toInt32 ∧ lo ≤ (lmax lo.toInt64 (lmin hi.toInt64 w)).toInt32 ∧ (lmax lo.toInt64 (lmin hi.toInt64 w)).toInt32 ≤ hi := by
  have e1 : lo.toInt64.toInt = lo.toInt := Int32.toInt_toInt64 lo
  have e2 : hi.toInt64.toInt = hi.toInt := Int32.toInt_toInt64 hi
  unfold fX5_within lmax lmin
  simp only [lg_cmp_ge, lg_cmp_le]
  by_cases q1 : lo.toInt64 ≤ w
  · rw [if_pos q1]
    have q1' := Int64.le_iff_toInt_le.mp q1
    by_cases q2 : w ≤ hi.toInt64
    · rw [if_pos q2]
      have q2' := Int64.le_iff_toInt_le.mp q2
      have ew : (if w < hi.toInt64 then w else hi.toInt64) = w := by
        by_cases q3 : w < hi.toInt64
        · rw [if_pos q3]
        · rw [if_neg q3]
          apply Int64.toInt_inj.mp
          have q3' : ¬ (w.toInt < hi.toInt64.toInt) := fun z => q3 (Int64.lt_iff_toInt_lt.mpr z)
          omega
      rw [ew, if_neg (Int64.not_lt.mpr q1)]
      have ht : w.toInt32.toInt = w.toInt := by
        rw [Int64.toInt_toInt32]
        have := lo.le_toInt
        have := hi.toInt_lt
        exact Int.bmod_eq_of_le (by omega) (by omega)
      refine ⟨rfl, ?_, ?_⟩
      · rw [Int32.le_iff_toInt_le, ht]
        omega
      · rw [Int32.le_iff_toInt_le, ht]
        omega
    · have q2' : ¬ (w.toInt ≤ hi.toInt64.toInt) := fun z => q2 (Int64.le_iff_toInt_le.mpr z)
      have q3 : ¬ (w < hi.toInt64) := fun z => q2' (by have := Int64.lt_iff_toInt_lt.mp z; omega)
      have q4 : ¬ (hi.toInt64 < lo.toInt64) := fun z => by have := Int64.lt_iff_toInt_lt.mp z; omega
      rw [if_neg q2, if_neg q3, if_neg q4, Int32.toInt32_toInt64]
      exact ⟨rfl, Int32.le_iff_toInt_le.mpr h, Int32.le_refl hi⟩
  · have q1' : ¬ (lo.toInt64.toInt ≤ w.toInt) := fun z => q1 (Int64.le_iff_toInt_le.mpr z)
    have q3 : w < hi.toInt64 := Int64.lt_iff_toInt_lt.mpr (by omega)
    have q4 : w < lo.toInt64 := Int64.lt_iff_toInt_lt.mpr (by omega)
    rw [if_neg q1, if_pos q3, if_pos q4, Int32.toInt32_toInt64]
    exact ⟨rfl, Int32.le_refl lo, Int32.le_iff_toInt_le.mpr h⟩
/-- an int held between two, by longs and by ints -/
theorem within_i (x : Int32) {lo hi : Int32} (h : lo.toInt ≤ hi.toInt) : (lmax lo.toInt64 (lmin hi.toInt64 x.toInt64)).toInt32 = imax lo (imin hi x) := by
  unfold lmax lmin imax imin
  have c1 : (x.toInt64 < hi.toInt64) ↔ x < hi := by
    rw [Int64.lt_iff_toInt_lt, Int32.lt_iff_toInt_lt, Int32.toInt_toInt64, Int32.toInt_toInt64]
  by_cases q : x < hi
  · rw [if_pos (c1.mpr q), if_pos q]
    have c2 : (x.toInt64 < lo.toInt64) ↔ x < lo := by
      rw [Int64.lt_iff_toInt_lt, Int32.lt_iff_toInt_lt, Int32.toInt_toInt64, Int32.toInt_toInt64]
    by_cases z : x < lo
    · rw [if_pos (c2.mpr z), Int32.toInt32_toInt64, if_neg]
      rw [Int32.lt_iff_toInt_lt] at z ⊢
      omega
    · rw [if_neg (fun w => z (c2.mp w)), Int32.toInt32_toInt64]
      by_cases z2 : lo < x
      · rw [if_pos z2]
      · rw [if_neg z2]
        rw [Int32.lt_iff_toInt_lt] at z z2
        apply Int32.toInt_inj.mp
        omega
  · rw [if_neg (fun w => q (c1.mp w)), if_neg q]
    have c2 : ¬ (hi.toInt64 < lo.toInt64) := by
      rw [Int64.lt_iff_toInt_lt, Int32.toInt_toInt64, Int32.toInt_toInt64]
      omega
    rw [if_neg c2, Int32.toInt32_toInt64]
    by_cases z2 : lo < hi
    · rw [if_pos z2]
    · rw [if_neg z2]
      rw [Int32.lt_iff_toInt_lt] at z2
      apply Int32.toInt_inj.mp
      omega
/-- scratch alone is touched -/
def SC (o : Nat) (m m' : Mem) : Prop := m'.1 = m.1 ∧ m'.2.2 = m.2.2 ∧ ∀ c k, c ≠ o + 16 → c ≠ o + 17 → m'.2.1 c k = m.2.1 c k
def SR (m m' : Mem) : Prop := ∀ c k, ¬ (c = 99 ∧ k = 38) → m'.1 c k = m.1 c k
theorem SC.fc {o b : Nat} {m m' : Mem} (h : SC o m m') : FC o b m m' := ⟨fun c k _ => by rw [h.1], fun c k q1 q2 _ => h.2.2 c k q1 q2, h.2.1⟩
theorem SR.fr {s : Nat} {m m' : Mem} (h : SR m m') : FR s m m' := fun c k q _ _ => h c k q
theorem BathR.sc {Z : Nat → Nat} {o b s : Nat} {mC mR mC' mR' : Mem} (ho : o ≤ 25) (h : BathR Z b s mC mR) (hC : SC o mC mC') (hR : SR mR mR') : BathR Z b s mC' mR' := by
  have hb := h.hb
  exact h.cong (fun c k _ _ => by rw [hC.1]) (hC.2.2 _ _ (by omega) (by omega)) (fun c _ _ => hR _ _ (by omega)) (fun c k _ _ _ => hR _ _ (by omega))
theorem OrdR.o25 {Z : Nat → Nat} {o : Nat} {mC mR : Mem} (h : OrdR Z o mC mR) : 7 ≤ o ∧ o ≤ 25 := by
  have := h.ho
  omega
theorem ease_rel {Z : Nat → Nat} {N o b s k t : Nat} {st : Int32} {mC mR : Mem} (hN : 100 ≤ N) (hO : OrdR Z o mC mR) (hB : BathR Z b s mC mR) (hk : k < Z 0) (ht : t < Z 1) : ∃ e mC' mR', fX6_easeIn N o b (zN k) (zN t) st mC = some (e, mC') ∧ fX12_isAtEase N (zN s) (zN k) (zN t) st mR = some (e, mR') ∧ (e = 0 ∨ e = 1) ∧ SC o mC mC' ∧ SR mR mR' := by
  have hz := hO.zb
  have hs := hB.hs
  have W : WR N o 1 mC mR (fX6_worthOf N o (1 : Int32) b (zN k) (zN t) st mC) (fX12_calls (zN s) (zN k) (zN t) st mR) := worth_k (r := 1) hN hO hB (by omega) (by omega) hk ht
  obtain ⟨w, mC', mR1, w1, w2, w3, w4, w5, w6, w7⟩ := W
  have b1 : mC.1 (b + 2) t = mR.1 127 (6 * s + t) := hB.eq 1 t (by omega) (by omega)
  have b2 : mC.1 (b + 4) k = mR.1 128 (6 * s + k) := hB.eq 2 k (by omega) (by omega)
  have E25 : ∀ m : Mem, (∀ c k, ¬ (c = 99 ∧ k = 38) → m.1 c k = mR.1 c k) → fX12_isAtEase_25 N (zN s) (zN k) (zN t) m = (if (10 : Int32) * mC.1 (b + 4) k < mC.1 (b + 2) t then some (0, m) else some (1, m)) := by
    intro m hm
    unfold fX12_isAtEase_25
    rw [zN_6, zN_6, g_in (by omega) (by omega), g_in (by omega) (by omega), zN_cl (by omega), zN_cl (by omega), hm _ _ (by omega), hm _ _ (by omega), b1, b2]
  unfold fX6_easeIn fX12_isAtEase
  rw [hasKnight_eq hO hk, b_some, if_neg (show ¬ ((1 : Int32) = 0) from by decide), hasTub_eq hO ht, b_some, if_neg (show ¬ ((1 : Int32) = 0) from by decide), w1, b_some, w2, b_some]
  dsimp only
  rw [g_in (k := t) (by omega) (by omega), g_in (k := k) (by omega) (by omega), zN_cl (by omega), zN_cl (by omega), w3]
  have hsc : SC o mC mC' := ⟨w3, w4, w5⟩
  have P : w = lMIN → ∀ (rest : Option (Int32 × Mem)), ∀ M : Mem, (∀ c k, ¬ (c = 99 ∧ k = 38) → M.1 c k = mR.1 c k) → ∃ e mC'' mR', (if lg_cmp w (-9223372036854775808 : Int64) = 0 then (if (10 : Int32) * mC.1 (b + 4) k < mC.1 (b + 2) t then some (0, mC') else some (1, mC')) else rest) = some (e, mC'') ∧ fX12_isAtEase_25 N (zN s) (zN k) (zN t) M = some (e, mR') ∧ (e = 0 ∨ e = 1) ∧ SC o mC mC'' ∧ SR mR mR' := by
    intro hw rest M hM
    rw [if_pos ((lg_cmp_eq _ _).mpr hw), E25 M hM]
    by_cases q : (10 : Int32) * mC.1 (b + 4) k < mC.1 (b + 2) t
    · rw [if_pos q, if_pos q]
      exact ⟨0, mC', M, rfl, rfl, Or.inl rfl, hsc, hM⟩
    · rw [if_neg q, if_neg q]
      exact ⟨1, mC', M, rfl, rfl, Or.inr rfl, hsc, hM⟩
  rcases w7 with ⟨v1, v2⟩ | ⟨v1, g, mR', v2, v3, v4⟩
  · rw [show fX12_hasLaw (1 : Int32) mR1 = some 0 from v1, b_some, if_pos rfl]
    exact P v2 _ mR1 (fun c k _ => by rw [w6])
  · rw [show fX12_hasLaw (1 : Int32) mR1 = some 1 from v1, b_some, if_neg (show ¬ ((1 : Int32) = 0) from by decide), show fX12_goes N (1 : Int32) mR1 = some (g, mR') from v2, b_some]
    dsimp only
    rcases v4 with ⟨u1, u2⟩ | ⟨u1, u2, u3⟩
    · rw [u1, if_pos rfl]
      exact P u2 _ mR' v3
    · rw [u1, if_neg (show ¬ ((1 : Int32) = 0) from by decide), if_neg (fun z => Sm_not u3 ((lg_cmp_eq _ _).mp z)), ← u2]
      by_cases q : lg_cmp w 0 = 0
      · rw [if_pos q, if_pos q]
        exact ⟨0, mC', mR', rfl, rfl, Or.inl rfl, hsc, v3⟩
      · rw [if_neg q, if_neg q]
        exact ⟨1, mC', mR', rfl, rfl, Or.inr rfl, hsc, v3⟩
/-- a law's worth held between two ints, else a plain one -/
theorem within_rel {N r : Nat} {mR mR1 mC' : Mem} {w : Int64} {lo hi plain : Int32} (h : lo.toInt ≤ hi.toInt) (w6 : mR1.1 = mR.1) (w7 : (fX12_hasLaw (zN r) mR1 = some 0 ∧ w = lMIN) ∨ (fX12_hasLaw (zN r) mR1 = some 1 ∧ ∃ g mR', fX12_goes N (zN r) mR1 = some (g, mR') ∧ (∀ c k, ¬ (c = 99 ∧ k = 38) → mR'.1 c k = mR.1 c k) ∧ ((g = 0 ∧ w = lMIN) ∨ (g = 1 ∧ w = mR'.2.1 122 0 ∧ Sm w)))) : ∃ v mR', fX12_within N (zN r) lo hi plain mR1 = some (v, mR') ∧ SR mR mR' ∧ ((w = lMIN ∧ v = plain) ∨ (w ≠ lMIN ∧ fX5_within w lo hi mC' = some v ∧ lo ≤ v ∧ v ≤ hi)) := by
  unfold fX12_within
  rcases w7 with ⟨v1, v2⟩ | ⟨v1, g, mR', v2, v3, v4⟩
  · rw [v1, b_some, if_pos rfl]
    exact ⟨plain, mR1, rfl, fun c k _ => by rw [w6], Or.inl ⟨v2, rfl⟩⟩
  · rw [v1, b_some, if_neg (show ¬ ((1 : Int32) = 0) from by decide), v2, b_some]
    dsimp only
    rcases v4 with ⟨u1, u2⟩ | ⟨u1, u2, u3⟩
    · rw [u1, if_pos rfl]
      exact ⟨plain, mR', rfl, v3, Or.inl ⟨u2, rfl⟩⟩
    · rw [u1, if_neg (show ¬ ((1 : Int32) = 0) from by decide), ← u2]
      have q := within_eq (w := w) h mC'
      exact ⟨_, mR', rfl, v3, Or.inr ⟨Sm_not u3, q⟩⟩
theorem mix_bd {l h m g : Nat} (hh : h ≤ 990) (hg : g ≤ 990) : (l * h + m * g) / (l + m) ≤ 990 := by
  apply Nat.div_le_of_le_mul
  have h1 : l * h ≤ l * 990 := Nat.mul_le_mul_left l hh
  have h2 : m * g ≤ m * 990 := Nat.mul_le_mul_left m hg
  rw [Nat.add_mul]
  omega
theorem mix_eq {l h m g : Nat} (hl : l ≤ 999) (hm : m ≤ 999) (hh : h ≤ 990) (hg : g ≤ 990) : (zN l * zN h + zN m * zN g) / (zN l + zN m) = zN ((l * h + m * g) / (l + m)) := by
  have h1 : l * h ≤ 999 * 990 := Nat.mul_le_mul hl hh
  have h2 : m * g ≤ 999 * 990 := Nat.mul_le_mul hm hg
  rw [zN_mul, zN_mul, zN_add, zN_add, zN_div (by omega) (by omega)]
theorem pour_rel {Z : Nat → Nat} {b s t m g : Nat} {mC mR : Mem} (hB : BathR Z b s mC mR) (ht : t < Z 1) (hm : 1 ≤ m ∧ m ≤ 999) (hg : g ≤ 990) : (fX0_hasRoom b (zN t) (zN m) mC = some 0 ∧ fX12_mixes (zN s) (zN t) (zN m) (zN g) mR = some (0, mR) ∧ ¬ (mR.1 126 (6 * s + t) + zN m ≤ 999)) ∨ (fX0_hasRoom b (zN t) (zN m) mC = some 1 ∧ (mR.1 126 (6 * s + t) + zN m ≤ 999) ∧ ∃ v w, fX0_pourIn b (zN t) (zN m) (zN g) mC = some (mI (mI mC (b + 2) t v) (b + 1) t w) ∧ fX12_mixes (zN s) (zN t) (zN m) (zN g) mR = some (1, mI (mI mR 127 (6 * s + t) v) 126 (6 * s + t) w) ∧ BathR Z b s (mI (mI mC (b + 2) t v) (b + 1) t w) (mI (mI mR 127 (6 * s + t) v) 126 (6 * s + t) w)) := by
  have hz := hB.zz
  have hs := hB.hs
  obtain ⟨l, l1, l2, l3⟩ := hB.li t ht
  obtain ⟨h, h1, h2, h3⟩ := hB.he t ht
  have b0 : mC.1 (b + 1) t = zN l := (hB.eq 0 t (by omega) (by omega)).trans l3
  have b1 : mC.1 (b + 2) t = zN h := (hB.eq 1 t (by omega) (by omega)).trans h3
  have T : ∀ m : Mem, fX0_isTub (zN t) m = some 1 := by
    intro m
    unfold fX0_isTub
    rw [if_neg (znn (by omega)), if_neg (show ¬ ((6 : Int32) ≤ zN t) from zle (a := 6) (by omega) (by omega) (by omega))]
  have R : fX0_hasRoom b (zN t) (zN m) mC = (if (999 : Int32) < zN (l + m) then some 0 else some 1) := by
    unfold fX0_hasRoom
    rw [T, b_some, if_neg (show ¬ ((1 : Int32) = 0) from by decide), g_in (by omega) (by omega), zN_cl (by omega), b0, zN_add]
  have C : (999 : Int32) < zN (l + m) ↔ 999 < l + m := by
    rw [show (999 : Int32) = zN 999 from rfl, zN_lt (by omega) (by omega)]
  have C' : zN (l + m) ≤ (999 : Int32) ↔ l + m ≤ 999 := by
    rw [show (999 : Int32) = zN 999 from rfl, zN_le (by omega) (by omega)]
  rw [R, l3, zN_add]
  have M : fX12_mixes (zN s) (zN t) (zN m) (zN g) mR = (if zN (l + m) ≤ (999 : Int32) then some (1, mI (mI mR 127 (6 * s + t) (zN ((l * h + m * g) / (l + m)))) 126 (6 * s + t) (zN (l + m))) else some (0, mR)) := by
    unfold fX12_mixes fX12_mixed
    rw [zN_6, g_in (by omega) (by omega), zN_cl (by omega), l3, h3, g_ii (by omega) (by omega), g_ii (by omega) (by omega), if_neg (show ¬ (zN l + zN m = 0) from by rw [zN_add]; exact zne (c := 0) (by omega) (by omega) (by omega)), mix_eq l2 (by omega) h2 hg, b_some, g_ii (by omega) (by omega), g_ii (by omega) (by omega), g_ii (by omega) (by omega), mI_n (by omega), l3, zN_add]
  by_cases q : l + m ≤ 999
  · right
    rw [if_neg (fun z => by have := C.mp z; omega)]
    refine ⟨rfl, C'.mpr q, zN ((l * h + m * g) / (l + m)), zN (l + m), ?_, ?_, ?_⟩
    · unfold fX0_pourIn fX0_mixedHeat
      rw [T, b_some, if_neg (show ¬ ((1 : Int32) = 0) from by decide), b_some, if_neg (show ¬ ((1 : Int32) = 0) from by decide), g_in (by omega) (by omega), zN_cl (by omega), b0, b1, if_pos (show 0 < zN l + zN m from by rw [zN_add, show (0 : Int32) = zN 0 from rfl, zN_lt (by omega) (by omega)]; omega), g_ii (by omega) (by omega), g_ii (by omega) (by omega), g_ii (by omega) (by omega), if_neg (show ¬ (zN l + zN m = 0) from by rw [zN_add]; exact zne (c := 0) (by omega) (by omega) (by omega)), mix_eq l2 (by omega) h2 hg, b_some, g_ii (by omega) (by omega), g_ii (by omega) (by omega), g_ii (by omega) (by omega), mI_n (by omega), b0, zN_add]
    · rw [M, if_pos (C'.mpr q)]
    · have B1 := hB.up (j := 1) (k := t) (by omega) (by omega) (zN ((l * h + m * g) / (l + m))) (fun z => absurd z (by omega)) (fun _ _ => ⟨_, Nat.zero_le _, mix_bd h2 hg, rfl⟩) (fun z => absurd z (by omega))
      exact B1.up (j := 0) (k := t) (by omega) (by omega) (zN (l + m)) (fun _ _ => ⟨_, by omega, q, rfl⟩) (fun z => absurd z (by omega)) (fun z => absurd z (by omega))
  · left
    rw [if_pos (C.mpr (by omega)), M, if_neg (fun z => q (C'.mp z))]
    exact ⟨rfl, rfl, fun z => q (C'.mp z)⟩
