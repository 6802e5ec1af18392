/-! one token on both sides -/
theorem words_no {N p L : Nat} {bt : Nat → Nat} {m : Mem} (hN : 100 ≤ N) (hp : p + L ≤ 700) (e26 : m.1 99 26 = zN (p + L)) (e27 : m.1 99 27 = zN p) (hb : ∀ i, i < L → bt (p + i) < 256 ∧ m.1 100 (p + i) = zN (bt (p + i))) (hL : 6 < L) : ∀ rem w n, w + rem = 21 → rem < n → fX12_word_4 N n (zN w) (zN (wof w)) m = some (-1) := by
  intro rem
  induction rem with
  | zero =>
    intro w n hw hn
    obtain ⟨n', rfl, _⟩ := fuel hn
    have ew : w = 21 := by omega
    rw [fX12_word_4, ew, if_pos (by decide)]
  | succ rem ih =>
    intro w n hw hn
    obtain ⟨n', rfl, hn⟩ := fuel hn
    obtain ⟨c1, c2, c3, c4, c5⟩ := wch_ok w (by omega)
    rw [fX12_word_4, if_neg (show ¬ (Int32.ofNat (lenS 1) ≤ zN (wof w)) from zle (a := 107) (by omega) (by omega) (by omega)), (wstep (k4 := fun x1 x2 m => fX12_word_4 N n' x1 x2 m) hN (show w < 21 by omega) hp e26 e27 hb).2 (fun z => by have := z.1; omega)]
    exact ih (w + 1) n' (by omega) (by omega)
theorem words_rel {N p L : Nat} {bt : Nat → Nat} {mC m : Mem} (hN : 100 ≤ N) (hp : p + L ≤ 700) (e26 : m.1 99 26 = zN (p + L)) (e27 : m.1 99 27 = zN p) (hb : ∀ i, i < L → bt (p + i) < 256 ∧ m.1 100 (p + i) = zN (bt (p + i))) (hL : L ≤ 6) (hl : ∀ i, i < L → isL (bt (p + i)) = true) (hwd : ∀ w, w < 21 → mC.1 6 w = wrdAt 106 w) : ∀ rem w nC nR, w + rem = 21 → rem < nC → rem < nR → (∃ v, v < 21 ∧ fX12_word_4 N nR (zN w) (zN (wof w)) m = some (zN v) ∧ fX10_kindOf_2 N nC (zN (vW bt p L)) (zN w) mC = some (zN v)) ∨ (fX12_word_4 N nR (zN w) (zN (wof w)) m = some (-1) ∧ fX10_kindOf_2 N nC (zN (vW bt p L)) (zN w) mC = some (-3)) := by
  have pl := pu_lt (bt := bt) (p := p) L hl
  have vb : vW bt p L < 1073741824 := by
    unfold vW
    rw [if_pos hL]
    have : 2 ^ (5 * (6 - L)) * pu bt p L < 2 ^ (5 * (6 - L)) * 2 ^ (5 * L) := Nat.mul_lt_mul_of_pos_left pl (Nat.pow_pos (by omega))
    rw [← Nat.pow_add, show 5 * (6 - L) + 5 * L = 30 from by omega] at this
    omega
  intro rem
  induction rem with
  | zero =>
    intro w nC nR hw h1 h2
    obtain ⟨nC', rfl, _⟩ := fuel h1
    obtain ⟨nR', rfl, _⟩ := fuel h2
    have ew : w = 21 := by omega
    rw [fX12_word_4, fX10_kindOf_2, ew, if_pos (by decide), if_pos (by decide)]
    exact Or.inr ⟨rfl, rfl⟩
  | succ rem ih =>
    intro w nC nR hw h1 h2
    obtain ⟨nC', rfl, h1⟩ := fuel h1
    obtain ⟨nR', rfl, h2⟩ := fuel h2
    obtain ⟨c1, c2, c3, c4, c5⟩ := wch_ok w (by omega)
    have wv := wvl_ok w (by omega)
    have S := wstep (N := N) (k4 := fun x1 x2 m => fX12_word_4 N nR' x1 x2 m) hN (show w < 21 by omega) hp e26 e27 hb
    rw [fX12_word_4, if_neg (show ¬ (Int32.ofNat (lenS 1) ≤ zN (wof w)) from zle (a := 107) (by omega) (by omega) (by omega)), fX10_kindOf_2, if_neg (show ¬ (Int32.ofNat 21 ≤ zN w) from zle (a := 21) (by omega) (by omega) (by omega)), g_in (by omega) (by omega), zN_cl (by omega), hwd w (by omega), wv.1]
    by_cases q : mtch bt p L w
    · rw [S.1 q, if_pos (by rw [(mtch_iff (by omega) hL hl).mp q])]
      exact Or.inl ⟨w, by omega, rfl, rfl⟩
    · rw [S.2 q, if_neg (zne (by omega) (by omega) (fun z => q ((mtch_iff (by omega) hL hl).mpr z))), zN_s]
      exact ih (w + 1) nC' nR' (by omega) (by omega) (by omega)
theorem shl5 {a : Nat} (h : a < 67108864) : zN a <<< ((5 : Int32) &&& 31) = zN (32 * a) := by
  apply Int32.toBitVec_inj.1
  show (BitVec.ofNat 32 a) <<< (((5 : Int32) &&& 31).toBitVec.smod 32).toNat = BitVec.ofNat 32 (32 * a)
  rw [show (((5 : Int32) &&& 31).toBitVec.smod 32).toNat = 5 from by decide]
  apply BitVec.eq_of_toNat_eq
  rw [BitVec.toNat_shiftLeft, BitVec.toNat_ofNat, BitVec.toNat_ofNat, Nat.mod_eq_of_lt (a := a) (by omega), Nat.shiftLeft_eq, Nat.mul_comm]
theorem name_ok {N p L : Nat} {bt : Nat → Nat} (hp : p + L ≤ 700) (hL : L ≤ 6) (hl : ∀ i, i < L → isL (bt (p + i)) = true) : ∀ rem k n m, k + rem = 6 → rem < n → m.1 99 26 = zN (p + L) → m.1 99 27 = zN p → (∀ i, i < L → m.1 100 (p + i) = zN (bt (p + i))) → m.1 99 29 = zN (if k ≤ L then pu bt p k else 2 ^ (5 * (k - L)) * pu bt p L) → ∃ M, fX12_name_7 N n (zN k) m = some M ∧ M.1 99 29 = zN (vW bt p L) ∧ (∀ c j, ¬ (c = 99 ∧ j = 29) → M.1 c j = m.1 c j) := by
  intro rem
  induction rem with
  | zero =>
    intro k n m hk hn e26 e27 hb e29
    obtain ⟨n', rfl, _⟩ := fuel hn
    have ek : k = 6 := by omega
    rw [fX12_name_7, if_pos (show (6 : Int32) ≤ zN k from zle' (a := 6) (by omega) (by omega) (by omega))]
    refine ⟨m, rfl, ?_, fun _ _ _ => rfl⟩
    rw [e29, ek]
    unfold vW
    rw [if_pos hL]
    by_cases q : 6 ≤ L
    · rw [if_pos q, show L = 6 from by omega, show 2 ^ (5 * (6 - 6)) = 1 from rfl, Nat.one_mul]
    · rw [if_neg q]
  | succ rem ih =>
    intro k n m hk hn e26 e27 hb e29
    obtain ⟨n', rfl, hn⟩ := fuel hn
    rw [fX12_name_7, if_neg (show ¬ ((6 : Int32) ≤ zN k) from zle (a := 6) (by omega) (by omega) (by omega)), e26, e27, zN_add, e29]
    unfold fX12_name_53
    by_cases q : k < L
    · have w : 97 ≤ bt (p + k) ∧ bt (p + k) ≤ 122 := of_decide_eq_true (hl k q)
      have pl := pu_lt (bt := bt) (p := p) k (fun i hi => hl i (by omega))
      have pb : pu bt p k < 33554432 := by
        have : (2 : Nat) ^ (5 * k) ≤ 2 ^ 25 := Nat.pow_le_pow_right (by omega) (by omega)
        omega
      rw [if_neg (zle (by omega) (by omega) (by omega)), g_in (by omega) (by omega), zN_cl (by omega), hb k q, if_pos (show k ≤ L by omega), shl5 (by omega), show zN (bt (p + k)) - (97 : Int32) + (1 : Int32) = zN (bt (p + k) - 96) from by rw [show (97 : Int32) = zN 97 from rfl, zN_sub (by omega), zN_s, show bt (p + k) - 97 + 1 = bt (p + k) - 96 from by omega], show zN (32 * pu bt p k) ||| zN (bt (p + k) - 96) = zN (pu bt p (k + 1)) from by rw [show 32 * pu bt p k = 2 ^ 5 * pu bt p k from rfl, zN_or2 (by omega) (by omega)]; rfl, zN_s]
      obtain ⟨M, r1, r2, r3⟩ := ih (k + 1) n' (mI m 99 29 (zN (pu bt p (k + 1)))) (by omega) (by omega) (by rw [mI_n (by omega)]; exact e26) (by rw [mI_n (by omega)]; exact e27) (fun i hi => by rw [mI_n (by omega)]; exact hb i hi) (by rw [mI_s ⟨rfl, rfl⟩, if_pos (show k + 1 ≤ L by omega)])
      exact ⟨M, r1, r2, fun c j w => by rw [r3 c j w, mI_n (by omega)]⟩
    · have pl := pu_lt (bt := bt) (p := p) L hl
      have val : (if k ≤ L then pu bt p k else 2 ^ (5 * (k - L)) * pu bt p L) = 2 ^ (5 * (k - L)) * pu bt p L := by
        by_cases y : k ≤ L
        · rw [if_pos y, show k = L from by omega, Nat.sub_self]
          exact (Nat.one_mul _).symm
        · rw [if_neg y]
      have bd : 2 ^ (5 * (k - L)) * pu bt p L < 67108864 := by
        have : 2 ^ (5 * (k - L)) * pu bt p L < 2 ^ (5 * (k - L)) * 2 ^ (5 * L) := Nat.mul_lt_mul_of_pos_left pl (Nat.pow_pos (by omega))
        rw [← Nat.pow_add, show 5 * (k - L) + 5 * L = 5 * k from by omega] at this
        have h2 : (2 : Nat) ^ (5 * k) ≤ 2 ^ 25 := Nat.pow_le_pow_right (by omega) (by omega)
        omega
      rw [if_pos (zle' (by omega) (by omega) (by omega)), val, shl5 bd, Int32.or_zero, zN_s]
      obtain ⟨M, r1, r2, r3⟩ := ih (k + 1) n' (mI m 99 29 (zN (32 * (2 ^ (5 * (k - L)) * pu bt p L)))) (by omega) (by omega) (by rw [mI_n (by omega)]; exact e26) (by rw [mI_n (by omega)]; exact e27) (fun i hi => by rw [mI_n (by omega)]; exact hb i hi) (by rw [mI_s ⟨rfl, rfl⟩, if_neg (show ¬ (k + 1 ≤ L) by omega), show 5 * (k + 1 - L) = 5 + 5 * (k - L) from by omega, Nat.pow_add, Nat.mul_assoc])
      exact ⟨M, r1, r2, fun c j w => by rw [r3 c j w, mI_n (by omega)]⟩
def sgT : List (Nat × Nat) := [(22, 59), (23, 40), (24, 41), (25, 60), (26, 256), (27, 61), (28, 257), (29, 258), (30, 62), (31, 43), (32, 45), (33, 42), (34, 47)]
def TkK (kd v so va : Int32) : Prop := (kd = -1 ∧ so = 4) ∨ (∃ w, w < 21 ∧ kd = zN w ∧ so = 0 ∧ va = zN w) ∨ (kd = -3 ∧ so = 1 ∧ v = va) ∨ (kd = 21 ∧ so = 2 ∧ ∃ a b, v = zN a ∧ va = zN b ∧ NumR a b) ∨ (∃ x y, (x, y) ∈ sgT ∧ kd = zN x ∧ so = 3 ∧ va = zN y) ∨ (kd = -2 ∧ so = 5)
def Tkn (p pl : Nat) (mC mR : Mem) : Prop := (mC.1 5 3 = zN p) ∧ (mR.1 99 26 = zN p) ∧ (mC.1 5 5 = zN pl) ∧ (mR.1 99 27 = zN pl) ∧ (pl ≤ p) ∧ (TkK (mC.1 5 4) (mC.1 5 6) (mR.1 99 28) (mR.1 99 29))
theorem Tkn.nC {p pl : Nat} {mC mR : Mem} (h : Tkn p pl mC mR) : mC.1 5 3 = zN p := h.1
theorem Tkn.nR {p pl : Nat} {mC mR : Mem} (h : Tkn p pl mC mR) : mR.1 99 26 = zN p := h.2.1
theorem Tkn.lC {p pl : Nat} {mC mR : Mem} (h : Tkn p pl mC mR) : mC.1 5 5 = zN pl := h.2.2.1
theorem Tkn.lR {p pl : Nat} {mC mR : Mem} (h : Tkn p pl mC mR) : mR.1 99 27 = zN pl := h.2.2.2.1
theorem Tkn.lp {p pl : Nat} {mC mR : Mem} (h : Tkn p pl mC mR) : pl ≤ p := h.2.2.2.2.1
theorem Tkn.kk {p pl : Nat} {mC mR : Mem} (h : Tkn p pl mC mR) : TkK (mC.1 5 4) (mC.1 5 6) (mR.1 99 28) (mR.1 99 29) := h.2.2.2.2.2
def sgx (c : Nat) : Nat := [0, 0, 0, 0, 0, 0, 0, 0, 0, 0, 0, 0, 0, 0, 0, 0, 0, 0, 0, 0, 0, 0, 0, 0, 0, 0, 0, 0, 0, 0, 0, 0, 0, 0, 0, 0, 0, 0, 0, 0, 23, 24, 33, 31, 0, 32, 0, 34, 0, 0, 0, 0, 0, 0, 0, 0, 0, 0, 0, 22, 0, 27].getD c 0
def spc (c : Nat) : Bool := decide (c = 59 ∨ c = 40 ∨ c = 41 ∨ c = 43 ∨ c = 45 ∨ c = 42 ∨ c = 47 ∨ c = 61)
theorem sgn0 : ∀ c, c < 256 → (c = 60 ∨ c = 62 ∨ (fX10_signOf (zN c) 0 mZ0 = some (-2) ∧ spc c = false) ∨ (fX10_signOf (zN c) 0 mZ0 = some (zN (sgx c)) ∧ (sgx c, c) ∈ sgT ∧ sgx c < 35 ∧ sgx c ≠ 26 ∧ sgx c ≠ 28 ∧ sgx c ≠ 29 ∧ spc c = true)) := by decide +kernel
theorem signOf_any {c : Nat} (h1 : ¬ c = 60) (h2 : ¬ c = 62) (hc : c < 256) (b : Int32) (m : Mem) : fX10_signOf (zN c) b m = fX10_signOf (zN c) 0 mZ0 := by
  unfold fX10_signOf
  rw [if_neg (show ¬ (zN c = (60 : Int32)) from zne (c := 60) (by omega) (by omega) h1), if_neg (show ¬ (zN c = (60 : Int32)) from zne (c := 60) (by omega) (by omega) h1), if_neg (show ¬ (zN c = (62 : Int32)) from zne (c := 62) (by omega) (by omega) h2), if_neg (show ¬ (zN c = (62 : Int32)) from zne (c := 62) (by omega) (by omega) h2)]
theorem sgR0 {c : Nat} {y : Int32} {m : Mem} (hc : c < 256) (h1 : ¬ c = 60) (h2 : ¬ c = 62) : fX12_sign_76 (zN c) y m = some (mI (mI m 99 28 y) 99 29 (zN c)) := by
  unfold fX12_sign_76 fX12_sign_106 fX12_sign_128 fX12_sign_150
  rw [if_neg (show ¬ (zN c = (60 : Int32)) from zne (c := 60) (by omega) (by omega) h1), if_neg (show ¬ (zN c = (60 : Int32)) from zne (c := 60) (by omega) (by omega) h1), if_neg (show ¬ (zN c = (62 : Int32)) from zne (c := 62) (by omega) (by omega) h2), mI_s ⟨rfl, rfl⟩, if_pos (show zN c < (256 : Int32) from by rw [show (256 : Int32) = zN 256 from rfl, zN_lt (by omega) (by omega)]; exact hc)]
theorem sign_eq {c : Nat} {m : Mem} (hc : c < 256) : fX12_sign (zN c) m = fX12_sign_76 (zN c) (if spc c = true ∨ c = 60 ∨ c = 62 then 3 else 5) (mI m 99 26 (m.1 99 26 + (1 : Int32))) := by
  have ze : ∀ a : Nat, a < 256 → (zN c = zN a) = (c = a) := fun a ha => zN_eq (by omega) (by omega)
  have e59 : (zN c = (59 : Int32)) = (c = 59) := ze 59 (by omega)
  have e40 : (zN c = (40 : Int32)) = (c = 40) := ze 40 (by omega)
  have e41 : (zN c = (41 : Int32)) = (c = 41) := ze 41 (by omega)
  have e43 : (zN c = (43 : Int32)) = (c = 43) := ze 43 (by omega)
  have e45 : (zN c = (45 : Int32)) = (c = 45) := ze 45 (by omega)
  have e42 : (zN c = (42 : Int32)) = (c = 42) := ze 42 (by omega)
  have e47 : (zN c = (47 : Int32)) = (c = 47) := ze 47 (by omega)
  have e60 : (zN c = (60 : Int32)) = (c = 60) := ze 60 (by omega)
  have e61 : (zN c = (61 : Int32)) = (c = 61) := ze 61 (by omega)
  have e62 : (zN c = (62 : Int32)) = (c = 62) := ze 62 (by omega)
  unfold fX12_sign fX12_sign_71
  by_cases q : spc c = true ∨ c = 60 ∨ c = 62
  · rw [if_pos q]
    have q : (c = 59 ∨ c = 40 ∨ c = 41 ∨ c = 43 ∨ c = 45 ∨ c = 42 ∨ c = 47 ∨ c = 61) ∨ c = 60 ∨ c = 62 := q.elim (fun z => Or.inl (of_decide_eq_true z)) Or.inr
    by_cases w1 : c = 59
    · rw [if_pos (e59.mpr w1)]
    · rw [if_neg (fun z => w1 (e59.mp z))]
      by_cases w2 : c = 40
      · rw [if_pos (e40.mpr w2)]
      · rw [if_neg (fun z => w2 (e40.mp z))]
        by_cases w3 : c = 41
        · rw [if_pos (e41.mpr w3)]
        · rw [if_neg (fun z => w3 (e41.mp z))]
          by_cases w4 : c = 43
          · rw [if_pos (e43.mpr w4)]
          · rw [if_neg (fun z => w4 (e43.mp z))]
            by_cases w5 : c = 45
            · rw [if_pos (e45.mpr w5)]
            · rw [if_neg (fun z => w5 (e45.mp z))]
              by_cases w6 : c = 42
              · rw [if_pos (e42.mpr w6)]
              · rw [if_neg (fun z => w6 (e42.mp z))]
                by_cases w7 : c = 47
                · rw [if_pos (e47.mpr w7)]
                · rw [if_neg (fun z => w7 (e47.mp z))]
                  by_cases w8 : c = 60
                  · rw [if_pos (e60.mpr w8)]
                  · rw [if_neg (fun z => w8 (e60.mp z))]
                    by_cases w9 : c = 61
                    · rw [if_pos (e61.mpr w9)]
                    · rw [if_neg (fun z => w9 (e61.mp z)), if_pos (e62.mpr (by omega))]
  · rw [if_neg q]
    have q1 : ¬ (c = 59 ∨ c = 40 ∨ c = 41 ∨ c = 43 ∨ c = 45 ∨ c = 42 ∨ c = 47 ∨ c = 61) := fun z => q (Or.inl (decide_eq_true z))
    rw [if_neg (fun z => q1 (by have := e59.mp z; omega)), if_neg (fun z => q1 (by have := e40.mp z; omega)), if_neg (fun z => q1 (by have := e41.mp z; omega)), if_neg (fun z => q1 (by have := e43.mp z; omega)), if_neg (fun z => q1 (by have := e45.mp z; omega)), if_neg (fun z => q1 (by have := e42.mp z; omega)), if_neg (fun z => q1 (by have := e47.mp z; omega)), if_neg (fun z => q (Or.inr (Or.inl (e60.mp z)))), if_neg (fun z => q1 (by have := e61.mp z; omega)), if_neg (fun z => q (Or.inr (Or.inr (e62.mp z))))]
theorem s60C (b : Int32) (m : Mem) : fX10_signOf (zN 60) b m = (if b = (61 : Int32) then (some (26 : Int32)) else (if b = (62 : Int32) then (some (28 : Int32)) else (some (25 : Int32)))) := by
  unfold fX10_signOf
  rw [if_neg (show ¬ (zN 60 = (40 : Int32)) from by decide), if_neg (show ¬ (zN 60 = (41 : Int32)) from by decide), if_neg (show ¬ (zN 60 = (42 : Int32)) from by decide), if_neg (show ¬ (zN 60 = (43 : Int32)) from by decide), if_neg (show ¬ (zN 60 = (44 : Int32)) from by decide), if_neg (show ¬ (zN 60 = (45 : Int32)) from by decide), if_neg (show ¬ (zN 60 = (46 : Int32)) from by decide), if_neg (show ¬ (zN 60 = (47 : Int32)) from by decide), if_neg (show ¬ (zN 60 = (48 : Int32)) from by decide), if_neg (show ¬ (zN 60 = (49 : Int32)) from by decide), if_neg (show ¬ (zN 60 = (50 : Int32)) from by decide), if_neg (show ¬ (zN 60 = (51 : Int32)) from by decide), if_neg (show ¬ (zN 60 = (52 : Int32)) from by decide), if_neg (show ¬ (zN 60 = (53 : Int32)) from by decide), if_neg (show ¬ (zN 60 = (54 : Int32)) from by decide), if_neg (show ¬ (zN 60 = (55 : Int32)) from by decide), if_neg (show ¬ (zN 60 = (56 : Int32)) from by decide), if_neg (show ¬ (zN 60 = (57 : Int32)) from by decide), if_neg (show ¬ (zN 60 = (58 : Int32)) from by decide), if_neg (show ¬ (zN 60 = (59 : Int32)) from by decide), if_pos (show zN 60 = (60 : Int32) from rfl)]
theorem s62C (b : Int32) (m : Mem) : fX10_signOf (zN 62) b m = (if b = (61 : Int32) then (some (29 : Int32)) else (some (30 : Int32))) := by
  unfold fX10_signOf
  rw [if_neg (show ¬ (zN 62 = (40 : Int32)) from by decide), if_neg (show ¬ (zN 62 = (41 : Int32)) from by decide), if_neg (show ¬ (zN 62 = (42 : Int32)) from by decide), if_neg (show ¬ (zN 62 = (43 : Int32)) from by decide), if_neg (show ¬ (zN 62 = (44 : Int32)) from by decide), if_neg (show ¬ (zN 62 = (45 : Int32)) from by decide), if_neg (show ¬ (zN 62 = (46 : Int32)) from by decide), if_neg (show ¬ (zN 62 = (47 : Int32)) from by decide), if_neg (show ¬ (zN 62 = (48 : Int32)) from by decide), if_neg (show ¬ (zN 62 = (49 : Int32)) from by decide), if_neg (show ¬ (zN 62 = (50 : Int32)) from by decide), if_neg (show ¬ (zN 62 = (51 : Int32)) from by decide), if_neg (show ¬ (zN 62 = (52 : Int32)) from by decide), if_neg (show ¬ (zN 62 = (53 : Int32)) from by decide), if_neg (show ¬ (zN 62 = (54 : Int32)) from by decide), if_neg (show ¬ (zN 62 = (55 : Int32)) from by decide), if_neg (show ¬ (zN 62 = (56 : Int32)) from by decide), if_neg (show ¬ (zN 62 = (57 : Int32)) from by decide), if_neg (show ¬ (zN 62 = (58 : Int32)) from by decide), if_neg (show ¬ (zN 62 = (59 : Int32)) from by decide), if_neg (show ¬ (zN 62 = (60 : Int32)) from by decide), if_neg (show ¬ (zN 62 = (61 : Int32)) from by decide), if_pos (show zN 62 = (62 : Int32) from rfl)]
theorem s150 {m : Mem} {q : Nat} (e : m.1 99 26 = zN q) (v : Nat) (hv : v < 1000) (e2 : m.1 99 29 = zN v) : fX12_sign_150 m = some (if v < 256 then m else mI m 99 26 (zN (q + 1))) := by
  unfold fX12_sign_150
  rw [e, e2]
  by_cases w : v < 256
  · rw [if_pos (show zN v < (256 : Int32) from by rw [show (256 : Int32) = zN 256 from rfl, zN_lt (by omega) (by omega)]; exact w), if_pos w]
  · rw [if_neg (show ¬ (zN v < (256 : Int32)) from zlt (c := 256) (by omega) (by omega) (by omega)), if_neg w, zN_s]
theorem sign_rel {n p : Nat} {bt : Nat → Nat} {mC mR m : Mem} (h : TkB n bt mC mR) (hp : p < n) (e : mR.1 99 26 = zN p) : ∃ kd so va p' MR, fX10_signOf (zN (bt p)) (hbt n bt (p + 1)) m = some kd ∧ fX12_sign (zN (bt p)) mR = some MR ∧ MR.1 99 26 = zN p' ∧ MR.1 99 28 = so ∧ MR.1 99 29 = va ∧ (∀ c k, ¬ (c = 99 ∧ (k = 26 ∨ k = 28 ∨ k = 29)) → MR.1 c k = mR.1 c k) ∧ p' ≤ n ∧ ((∃ x y, (x, y) ∈ sgT ∧ kd = zN x ∧ so = 3 ∧ va = zN y) ∨ (kd = -2 ∧ so = 5)) ∧ ((p' = p + 2 ∧ (kd = 26 ∨ kd = 28 ∨ kd = 29)) ∨ (p' = p + 1 ∧ ¬ kd = 26 ∧ ¬ kd = 28 ∧ ¬ kd = 29)) := by
  have hn := h.hn
  have hb := (h.bb p hp).1
  have h1 : TkB n bt mC (mI mR 99 26 (zN (p + 1))) := h.r (by omega)
  have c61 : (hbt n bt (p + 1) = zN 61) = (p + 1 < n ∧ bt (p + 1) = 61) := hbt_eq h (by omega)
  have c62 : (hbt n bt (p + 1) = zN 62) = (p + 1 < n ∧ bt (p + 1) = 62) := hbt_eq h (by omega)
  rw [sign_eq hb, e, zN_s]
  -- the memory with the plain sign
  have hA : ∀ v : Int32, TkB n bt mC (mI (mI (mI mR 99 26 (zN (p + 1))) 99 28 3) 99 29 v) := fun v => (h1.r (by omega)).r (by omega)
  have hA2 : ∀ v w : Int32, TkB n bt mC (mI (mI (mI (mI mR 99 26 (zN (p + 1))) 99 28 3) 99 29 v) 99 29 w) := fun v w => (hA v).r (by omega)
  have a26 : ∀ v : Int32, (mI (mI (mI mR 99 26 (zN (p + 1))) 99 28 3) 99 29 v).1 99 26 = zN (p + 1) := fun v => by rw [mI_n (by omega), mI_n (by omega), mI_s ⟨rfl, rfl⟩]
  have b26 : ∀ v w : Int32, (mI (mI (mI (mI mR 99 26 (zN (p + 1))) 99 28 3) 99 29 v) 99 29 w).1 99 26 = zN (p + 1) := fun v w => by rw [mI_n (by omega)]; exact a26 v
  by_cases q0 : bt p = 60
  · rw [q0, if_pos (Or.inr (Or.inl rfl)), s60C]
    unfold fX12_sign_76
    rw [if_pos (show zN 60 = (60 : Int32) from rfl), here_ok (hA _) (p := p + 1) (by omega) (a26 _), b_some]
    by_cases y : hbt n bt (p + 1) = (61 : Int32)
    · have y2 : p + 1 < n := by
        have y : hbt n bt (p + 1) = zN 61 := y
        rw [c61] at y
        exact y.1
      rw [if_pos y, if_pos y]
      unfold fX12_sign_106
      rw [if_pos (show zN 60 = (60 : Int32) from rfl), here_ok (hA2 _ _) (p := p + 1) (by omega) (b26 _ _), b_some, y, if_neg (by decide)]
      unfold fX12_sign_128
      rw [if_neg (show ¬ (zN 60 = (62 : Int32)) from by decide), show (256 : Int32) = zN 256 from rfl, s150 (b26 _ _) 256 (by omega) (mI_s ⟨rfl, rfl⟩), if_neg (by omega)]
      refine ⟨26, 3, zN 256, p + 1 + 1, _, rfl, rfl, mI_s ⟨rfl, rfl⟩, ?_, ?_, fun c k w => ?_, by omega, Or.inl ⟨26, 256, by decide, rfl, rfl, rfl⟩, Or.inl ⟨rfl, Or.inl rfl⟩⟩
      · rw [mI_n (by omega), mI_n (by omega), mI_n (by omega), mI_s ⟨rfl, rfl⟩]
      · rw [mI_n (by omega), mI_s ⟨rfl, rfl⟩]
      · rw [mI_n (by omega), mI_n (by omega), mI_n (by omega), mI_n (by omega), mI_n (by omega)]
    · rw [if_neg y, if_neg y]
      unfold fX12_sign_106
      rw [if_pos (show zN 60 = (60 : Int32) from rfl), here_ok (hA _) (p := p + 1) (by omega) (a26 _), b_some]
      by_cases z : hbt n bt (p + 1) = (62 : Int32)
      · have y2 : p + 1 < n := by
          have z : hbt n bt (p + 1) = zN 62 := z
          rw [c62] at z
          exact z.1
        rw [if_pos z, if_pos z]
        unfold fX12_sign_128
        rw [if_neg (show ¬ (zN 60 = (62 : Int32)) from by decide), show (257 : Int32) = zN 257 from rfl, s150 (b26 _ _) 257 (by omega) (mI_s ⟨rfl, rfl⟩), if_neg (by omega)]
        refine ⟨28, 3, zN 257, p + 1 + 1, _, rfl, rfl, mI_s ⟨rfl, rfl⟩, ?_, ?_, fun c k w => ?_, by omega, Or.inl ⟨28, 257, by decide, rfl, rfl, rfl⟩, Or.inl ⟨rfl, Or.inr (Or.inl rfl)⟩⟩
        · rw [mI_n (by omega), mI_n (by omega), mI_n (by omega), mI_s ⟨rfl, rfl⟩]
        · rw [mI_n (by omega), mI_s ⟨rfl, rfl⟩]
        · rw [mI_n (by omega), mI_n (by omega), mI_n (by omega), mI_n (by omega), mI_n (by omega)]
      · rw [if_neg z, if_neg z]
        unfold fX12_sign_128
        rw [if_neg (show ¬ (zN 60 = (62 : Int32)) from by decide), s150 (a26 _) 60 (by omega) (mI_s ⟨rfl, rfl⟩), if_pos (by omega)]
        refine ⟨25, 3, zN 60, p + 1, _, rfl, rfl, a26 _, ?_, mI_s ⟨rfl, rfl⟩, fun c k w => ?_, by omega, Or.inl ⟨25, 60, by decide, rfl, rfl, rfl⟩, Or.inr ⟨rfl, by decide, by decide, by decide⟩⟩
        · rw [mI_n (by omega), mI_s ⟨rfl, rfl⟩]
        · rw [mI_n (by omega), mI_n (by omega), mI_n (by omega)]
  · by_cases q2 : bt p = 62
    · rw [q2, if_pos (Or.inr (Or.inr rfl)), s62C]
      unfold fX12_sign_76 fX12_sign_106
      rw [if_neg (show ¬ (zN 62 = (60 : Int32)) from by decide), if_neg (show ¬ (zN 62 = (60 : Int32)) from by decide)]
      unfold fX12_sign_128
      rw [if_pos (show zN 62 = (62 : Int32) from rfl), here_ok (hA _) (p := p + 1) (by omega) (a26 _), b_some]
      by_cases y : hbt n bt (p + 1) = (61 : Int32)
      · have y2 : p + 1 < n := by
          have y : hbt n bt (p + 1) = zN 61 := y
          rw [c61] at y
          exact y.1
        rw [if_pos y, if_pos y, show (258 : Int32) = zN 258 from rfl, s150 (b26 _ _) 258 (by omega) (mI_s ⟨rfl, rfl⟩), if_neg (by omega)]
        refine ⟨29, 3, zN 258, p + 1 + 1, _, rfl, rfl, mI_s ⟨rfl, rfl⟩, ?_, ?_, fun c k w => ?_, by omega, Or.inl ⟨29, 258, by decide, rfl, rfl, rfl⟩, Or.inl ⟨rfl, Or.inr (Or.inr rfl)⟩⟩
        · rw [mI_n (by omega), mI_n (by omega), mI_n (by omega), mI_s ⟨rfl, rfl⟩]
        · rw [mI_n (by omega), mI_s ⟨rfl, rfl⟩]
        · rw [mI_n (by omega), mI_n (by omega), mI_n (by omega), mI_n (by omega), mI_n (by omega)]
      · rw [if_neg y, if_neg y, s150 (a26 _) 62 (by omega) (mI_s ⟨rfl, rfl⟩), if_pos (by omega)]
        refine ⟨30, 3, zN 62, p + 1, _, rfl, rfl, a26 _, ?_, mI_s ⟨rfl, rfl⟩, fun c k w => ?_, by omega, Or.inl ⟨30, 62, by decide, rfl, rfl, rfl⟩, Or.inr ⟨rfl, by decide, by decide, by decide⟩⟩
        · rw [mI_n (by omega), mI_s ⟨rfl, rfl⟩]
        · rw [mI_n (by omega), mI_n (by omega), mI_n (by omega)]
    · rw [signOf_any q0 q2 hb, sgR0 hb q0 q2]
      rcases sgn0 (bt p) hb with w | w | ⟨w1, w2⟩ | ⟨w1, w2, w3, w4, w5, w6, w7⟩
      · exact absurd w q0
      · exact absurd w q2
      · rw [w1, if_neg (fun z => z.elim (fun y => by rw [w2] at y; exact absurd y (by decide)) (fun y => y.elim q0 q2))]
        refine ⟨-2, 5, zN (bt p), p + 1, _, rfl, rfl, ?_, ?_, mI_s ⟨rfl, rfl⟩, fun c k w => ?_, by omega, Or.inr ⟨rfl, rfl⟩, Or.inr ⟨rfl, by decide, by decide, by decide⟩⟩
        · rw [mI_n (by omega), mI_n (by omega), mI_s ⟨rfl, rfl⟩]
        · rw [mI_n (by omega), mI_s ⟨rfl, rfl⟩]
        · rw [mI_n (by omega), mI_n (by omega), mI_n (by omega)]
      · rw [w1, if_pos (Or.inl w7)]
        refine ⟨zN (sgx (bt p)), 3, zN (bt p), p + 1, _, rfl, rfl, ?_, ?_, mI_s ⟨rfl, rfl⟩, fun c k w => ?_, by omega, Or.inl ⟨_, _, w2, rfl, rfl, rfl⟩, Or.inr ⟨rfl, zne (c := 26) (by omega) (by omega) w4, zne (c := 28) (by omega) (by omega) w5, zne (c := 29) (by omega) (by omega) w6⟩⟩
        · rw [mI_n (by omega), mI_n (by omega), mI_s ⟨rfl, rfl⟩]
        · rw [mI_n (by omega), mI_s ⟨rfl, rfl⟩]
        · rw [mI_n (by omega), mI_n (by omega), mI_n (by omega)]
/-- advance and token -/
theorem tok_rel {N n p : Nat} {bt : Nat → Nat} {mC mR : Mem} (hN : 1000 ≤ N) (h : TkB n bt mC mR) (e1 : mC.1 5 3 = zN p) (e2 : mR.1 99 26 = zN p) (hp : p ≤ n) : ∃ MC MR p' pl, fX10_advance N mC = some MC ∧ fX12_token N mR = some MR ∧ Tkn p' pl MC MR ∧ p ≤ pl ∧ p' ≤ n ∧ (MC.1 5 4 = -1 ∨ p < p') ∧ (∀ c k, ¬ (c = 5 ∧ 3 ≤ k ∧ k ≤ 6) → MC.1 c k = mC.1 c k) ∧ MC.2 = mC.2 ∧ (∀ c k, ¬ (c = 99 ∧ 26 ≤ k ∧ k ≤ 29) → MR.1 c k = mR.1 c k) := by
  have hn := h.hn
  obtain ⟨q, C1, R1, b1, b2, b3, b4, b5, b6, b7, b8, b9, b10⟩ := blanks (N := N) (k37 := fX10_advance_37 N) (k31 := fX12_token_31 N) (n - p) p N N mC mR (by omega) (by omega) (by omega) h e1 e2
  unfold fX10_advance fX12_token
  rw [e1, b4, b5]
  have h1 : TkB n bt C1 R1 := h.cong (fun c k w _ _ => b8 c k (by omega)) (fun c k w _ _ => b10 c k (by omega))
  unfold fX10_advance_37 fX12_token_31
  rw [b6, b7]
  have h2 : TkB n bt (mI (mI C1 5 5 (zN q)) 5 6 0) (mI R1 99 27 (zN q)) := ((h1.c (by omega)).c (by omega)).r (by omega)
  have d3 : (mI (mI C1 5 5 (zN q)) 5 6 0).1 5 3 = zN q := by rw [mI_n (by omega), mI_n (by omega)]; exact b6
  have d26 : (mI R1 99 27 (zN q)).1 99 26 = zN q := by rw [mI_n (by omega)]; exact b7
  have fC : ∀ c k, ¬ (c = 5 ∧ 3 ≤ k ∧ k ≤ 6) → (mI (mI C1 5 5 (zN q)) 5 6 0).1 c k = mC.1 c k := fun c k w => by rw [mI_n (by omega), mI_n (by omega)]; exact b8 c k (by omega)
  have fR : ∀ c k, ¬ (c = 99 ∧ 26 ≤ k ∧ k ≤ 29) → (mI R1 99 27 (zN q)).1 c k = mR.1 c k := fun c k w => by rw [mI_n (by omega)]; exact b10 c k (by omega)
  have d5 : (mI (mI C1 5 5 (zN q)) 5 6 0).1 5 5 = zN q := by rw [mI_n (by omega), mI_s ⟨rfl, rfl⟩]
  have d6 : (mI (mI C1 5 5 (zN q)) 5 6 0).1 5 6 = zN 0 := mI_s ⟨rfl, rfl⟩
  have d27 : (mI R1 99 27 (zN q)).1 99 27 = zN q := mI_s ⟨rfl, rfl⟩
  have g2 : (mI (mI C1 5 5 (zN q)) 5 6 0).2 = mC.2 := b9
  rw [d3]
  generalize mI (mI C1 5 5 (zN q)) 5 6 0 = C at *
  generalize mI R1 99 27 (zN q) = R at *
  rw [byteAt_ok h2 (by omega), b_some, here_ok h2 (by omega) d26, b_some]
  by_cases qn : q < n
  · have hb := (h2.bb q qn).1
    have eh : hbt n bt q = zN (bt q) := by
      unfold hbt
      rw [if_pos qn]
    rw [if_pos (show (0 : Int32) ≤ hbt n bt q from by rw [eh]; exact zle' (a := 0) (by omega) (by omega) (by omega)), if_neg (show ¬ (hbt n bt q = (-1 : Int32)) from by rw [eh, zN_m1 (by omega)]; exact id), (let_ok (m' := R) h2).1, (let_ok (m := C) h2).2, b_some, b_some]
    by_cases ql : isL (bt q) = true
    · rw [if_pos (show q < n ∧ isL (bt q) = true from ⟨qn, ql⟩), if_neg z10, if_neg z10]
      obtain ⟨L, C2, R2, r1, r2, r3, r4, r5, r6, r7, r8, r9, r10, r11⟩ := lets (N := N) (n := n) (p := q) (k53 := fX10_takeWord_53 N) (k87 := fX12_token_87 N) (n - q) 0 N N C R (by omega) (by omega) (by omega) h2 (by rw [d6]; rfl) (by rw [d26]; rfl) (fun i hi => absurd hi (by omega))
      have L1 := r3 (by omega) ql
      have h3 : TkB n bt C2 R2 := h2.cong (fun c k w _ _ => r9 c k (by omega)) (fun c k w _ _ => r11 c k (by omega))
      have e27 : R2.1 99 27 = zN q := by rw [r11 _ _ (by omega)]; exact d27
      have hbb : ∀ i, i < L → bt (q + i) < 256 ∧ R2.1 100 (q + i) = zN (bt (q + i)) := fun i hi => ⟨(h3.bb (q + i) (by omega)).1, (h3.bb (q + i) (by omega)).2.2⟩
      have c3 : C2.1 5 3 = zN q := by rw [r9 _ _ (by omega)]; exact d3
      unfold fX10_takeWord
      rw [d3, show fX10_takeWord_7 N (fX10_takeWord_53 N) N (0 : Int32) (zN q) C = _ from r5, r6]
      unfold fX10_takeWord_53 fX12_token_87 fX12_word fX10_takeWord_83
      rw [c3, zN_add]
      by_cases L6 : L ≤ 6
      · rw [if_pos (show zN L ≤ (6 : Int32) from zle' (c := 6) (by omega) (by omega) L6), mI_n (by omega), r7]
        unfold fX10_kindOf
        rcases words_rel (N := N) (mC := mI C2 5 3 (zN (q + L))) (m := R2) (by omega) (by omega) r8 e27 hbb L6 r4 (fun w hw => by rw [mI_n (by omega)]; exact h3.wd w hw) 21 0 N N (by omega) (by omega) (by omega) with ⟨v, v1, v2, v3⟩ | ⟨v2, v3⟩
        · rw [show fX10_kindOf_2 N N (zN (vW bt q L)) (0 : Int32) (mI C2 5 3 (zN (q + L))) = _ from v3, b_some, b_some, show fX12_word_4 N N (0 : Int32) (0 : Int32) R2 = _ from v2, b_some, mI_s ⟨rfl, rfl⟩, if_neg (show ¬ (zN v = (-1 : Int32)) from by rw [zN_m1 (by omega)]; exact id)]
          unfold fX12_token_127
          rw [mI_s ⟨rfl, rfl⟩, if_neg (by decide)]
          refine ⟨_, _, q + L, q, rfl, rfl, ⟨?_, ?_, ?_, ?_, by omega, Or.inr (Or.inl ⟨v, v1, mI_s ⟨rfl, rfl⟩, mI_s ⟨rfl, rfl⟩, by rw [mI_n (by omega), mI_s ⟨rfl, rfl⟩]⟩)⟩, b1, r2, Or.inr (by omega), fun c k w => ?_, r10.trans g2, fun c k w => ?_⟩
          · rw [mI_n (by omega), mI_s ⟨rfl, rfl⟩]
          · rw [mI_n (by omega), mI_n (by omega)]
            exact r8
          · rw [mI_n (by omega), mI_n (by omega), r9 _ _ (by omega)]
            exact d5
          · rw [mI_n (by omega), mI_n (by omega)]
            exact e27
          · rw [mI_n (by omega), mI_n (by omega), r9 _ _ (by omega)]
            exact fC c k w
          · rw [mI_n (by omega), mI_n (by omega), r11 _ _ (by omega)]
            exact fR c k w
        · rw [show fX10_kindOf_2 N N (zN (vW bt q L)) (0 : Int32) (mI C2 5 3 (zN (q + L))) = _ from v3, b_some, b_some, show fX12_word_4 N N (0 : Int32) (0 : Int32) R2 = _ from v2, b_some, mI_s ⟨rfl, rfl⟩, if_pos rfl, mI_n (by omega), mI_n (by omega), r8, e27, zN_sub (by omega), if_pos (show zN (q + L - q) ≤ (6 : Int32) from zle' (c := 6) (by omega) (by omega) (by omega))]
          unfold fX12_token_127
          rw [mI_s ⟨rfl, rfl⟩, if_pos rfl]
          unfold fX12_name
          obtain ⟨R3, n1, n2, n3⟩ := name_ok (N := N) (by omega) L6 r4 6 0 N (mI (mI (mI R2 99 29 (-1 : Int32)) 99 28 (1 : Int32)) 99 29 (0 : Int32)) (by omega) (by omega) (by rw [mI_n (by omega), mI_n (by omega), mI_n (by omega)]; exact r8) (by rw [mI_n (by omega), mI_n (by omega), mI_n (by omega)]; exact e27) (fun i hi => by rw [mI_n (by omega), mI_n (by omega), mI_n (by omega)]; exact (hbb i hi).2) (by rw [mI_s ⟨rfl, rfl⟩, if_pos (Nat.zero_le _)]; rfl)
          rw [show fX12_name_7 N N (0 : Int32) (mI (mI (mI R2 99 29 (-1 : Int32)) 99 28 (1 : Int32)) 99 29 (0 : Int32)) = _ from n1, b_some]
          refine ⟨_, _, q + L, q, rfl, rfl, ⟨?_, ?_, ?_, ?_, by omega, Or.inr (Or.inr (Or.inl ⟨mI_s ⟨rfl, rfl⟩, ?_, ?_⟩))⟩, b1, r2, Or.inr (by omega), fun c k w => ?_, r10.trans g2, fun c k w => ?_⟩
          · rw [mI_n (by omega), mI_s ⟨rfl, rfl⟩]
          · rw [n3 _ _ (by omega), mI_n (by omega), mI_n (by omega), mI_n (by omega)]
            exact r8
          · rw [mI_n (by omega), mI_n (by omega), r9 _ _ (by omega)]
            exact d5
          · rw [n3 _ _ (by omega), mI_n (by omega), mI_n (by omega), mI_n (by omega)]
            exact e27
          · rw [n3 _ _ (by omega), mI_n (by omega), mI_s ⟨rfl, rfl⟩]
          · rw [n2, mI_n (by omega), mI_n (by omega), r7]
          · rw [mI_n (by omega), mI_n (by omega), r9 _ _ (by omega)]
            exact fC c k w
          · rw [n3 _ _ (by omega), mI_n (by omega), mI_n (by omega), mI_n (by omega), r11 _ _ (by omega)]
            exact fR c k w
      · rw [if_neg (show ¬ (zN L ≤ (6 : Int32)) from zle (c := 6) (by omega) (by omega) (by omega)), b_some, show fX12_word_4 N N (0 : Int32) (0 : Int32) R2 = _ from words_no (N := N) (by omega) (by omega) r8 e27 hbb (by omega) 21 0 N (by omega) (by omega), b_some, mI_s ⟨rfl, rfl⟩, if_pos rfl, mI_n (by omega), mI_n (by omega), r8, e27, zN_sub (by omega), if_neg (show ¬ (zN (q + L - q) ≤ (6 : Int32)) from zle (c := 6) (by omega) (by omega) (by omega))]
        unfold fX12_token_127
        rw [mI_s ⟨rfl, rfl⟩, if_neg (by decide)]
        refine ⟨_, _, q + L, q, rfl, rfl, ⟨?_, ?_, ?_, ?_, by omega, Or.inr (Or.inr (Or.inr (Or.inr (Or.inr ⟨mI_s ⟨rfl, rfl⟩, mI_s ⟨rfl, rfl⟩⟩))))⟩, b1, r2, Or.inr (by omega), fun c k w => ?_, r10.trans g2, fun c k w => ?_⟩
        · rw [mI_n (by omega), mI_s ⟨rfl, rfl⟩]
        · rw [mI_n (by omega), mI_n (by omega)]
          exact r8
        · rw [mI_n (by omega), mI_n (by omega), r9 _ _ (by omega)]
          exact d5
        · rw [mI_n (by omega), mI_n (by omega)]
          exact e27
        · rw [mI_n (by omega), mI_n (by omega), r9 _ _ (by omega)]
          exact fC c k w
        · rw [mI_n (by omega), mI_n (by omega), r11 _ _ (by omega)]
          exact fR c k w
    · rw [if_neg (show ¬ (q < n ∧ isL (bt q) = true) from fun z => ql z.2), if_pos rfl, if_pos rfl, (dig_ok (m' := R) h2).1, (dig_ok (m := C) h2).2, b_some, b_some]
      by_cases qd : isD (bt q) = true
      · rw [if_pos (show q < n ∧ isD (bt q) = true from ⟨qn, qd⟩), if_neg z10, if_neg z10]
        obtain ⟨L, a', b', C2, R2, r1, r2, r3, r5, r6, r7, r8, r8', r8'', r9, r10, r11⟩ := nums (N := N) (n := n) (p := q) (k60 := fX10_takeNumber_60 N) (n - q) 0 0 0 N N C (mI (mI R 99 28 (2 : Int32)) 99 29 (0 : Int32)) (by omega) (by omega) (by omega) ((h2.r (by omega)).r (by omega)) d6 (by rw [mI_n (by omega), mI_n (by omega)]; exact d26) (mI_s ⟨rfl, rfl⟩) (Or.inl ⟨rfl, by omega⟩)
        have L1 := r3 (by omega) qd
        have c3 : C2.1 5 3 = zN q := by rw [r9 _ _ (by omega)]; exact d3
        unfold fX10_takeNumber
        rw [d3, show fX10_takeNumber_7 N (fX10_takeNumber_60 N) N (0 : Int32) (zN q) C = _ from r5, r6]
        unfold fX10_takeNumber_60
        rw [b_some, c3, zN_add]
        refine ⟨_, _, q + L, q, rfl, rfl, ⟨?_, r8, ?_, ?_, by omega, Or.inr (Or.inr (Or.inr (Or.inl ⟨mI_s ⟨rfl, rfl⟩, ?_, a', b', ?_, r8', r8''⟩)))⟩, b1, r2, Or.inr (by omega), fun c k w => ?_, r10.trans g2, fun c k w => ?_⟩
        · rw [mI_n (by omega), mI_s ⟨rfl, rfl⟩]
        · rw [mI_n (by omega), mI_n (by omega), r9 _ _ (by omega)]
          exact d5
        · rw [r11 _ _ (by omega), mI_n (by omega), mI_n (by omega)]
          exact d27
        · rw [r11 _ _ (by omega), mI_n (by omega), mI_s ⟨rfl, rfl⟩]
        · rw [mI_n (by omega), mI_n (by omega)]
          exact r7
        · rw [mI_n (by omega), mI_n (by omega), r9 _ _ (by omega)]
          exact fC c k w
        · rw [r11 _ _ (by omega), mI_n (by omega), mI_n (by omega)]
          exact fR c k w
      · rw [if_neg (show ¬ (q < n ∧ isD (bt q) = true) from fun z => qd z.2), if_pos rfl, if_pos rfl, mI_s ⟨rfl, rfl⟩, zN_s, byteAt_ok (h2.c (by omega)) (by omega), b_some, eh]
        obtain ⟨kd, so, va, p', R2, s1, s2, s3, s4, s5, s6, s7, s8, s9⟩ := sign_rel (m := mI C 5 3 (zN (q + 1))) h2 qn d26
        rw [s1, s2, b_some, b_some, mI_s ⟨rfl, rfl⟩]
        have KK : ∀ C' : Mem, C'.1 5 4 = kd → TkK (C'.1 5 4) (C'.1 5 6) (R2.1 99 28) (R2.1 99 29) := by
          intro C' e
          rw [e, s4, s5]
          rcases s8 with z | z
          · exact Or.inr (Or.inr (Or.inr (Or.inr (Or.inl z))))
          · exact Or.inr (Or.inr (Or.inr (Or.inr (Or.inr z))))
        have P1 : ∀ C' : Mem, C'.1 5 4 = kd → C'.1 5 3 = zN p' → (∀ c k, ¬ (c = 5 ∧ (k = 3 ∨ k = 4)) → C'.1 c k = C.1 c k) → C'.2 = C.2 → Tkn p' q C' R2 ∧ (∀ c k, ¬ (c = 5 ∧ 3 ≤ k ∧ k ≤ 6) → C'.1 c k = mC.1 c k) ∧ C'.2 = mC.2 := by
          intro C' x1 x2 x3 x4
          refine ⟨⟨x2, s3, ?_, ?_, by omega, KK C' x1⟩, fun c k w => ?_, x4.trans g2⟩
          · rw [x3 _ _ (by omega)]
            exact d5
          · rw [s6 _ _ (by omega)]
            exact d27
          · rw [x3 _ _ (by omega)]
            exact fC c k w
        have P2 : ∀ c k, ¬ (c = 99 ∧ 26 ≤ k ∧ k ≤ 29) → R2.1 c k = mR.1 c k := fun c k w => by
          rw [s6 _ _ (by omega)]
          exact fR c k w
        have ad : fX10_advance_152 N (mI (mI C 5 3 (zN (q + 1))) 5 4 kd) = some (mI (mI (mI C 5 3 (zN (q + 1))) 5 4 kd) 5 3 (zN (q + 2))) := by
          unfold fX10_advance_152
          rw [mI_n (by omega), mI_s ⟨rfl, rfl⟩, zN_s]
        rcases s9 with ⟨t1, t2⟩ | ⟨t1, t2, t3, t4⟩
        · obtain ⟨y1, y2, y3⟩ := P1 (mI (mI (mI C 5 3 (zN (q + 1))) 5 4 kd) 5 3 (zN (q + 2))) (by rw [mI_n (by omega), mI_s ⟨rfl, rfl⟩]) (by rw [mI_s ⟨rfl, rfl⟩, t1]) (fun c k w => by rw [mI_n (by omega), mI_n (by omega), mI_n (by omega)]) rfl
          refine ⟨_, R2, p', q, ?_, rfl, y1, b1, s7, Or.inr (by omega), y2, y3, P2⟩
          rw [ad]
          by_cases z1 : kd = 26
          · rw [if_pos z1]
          · rw [if_neg z1]
            by_cases z2 : kd = 28
            · rw [if_pos z2]
            · rw [if_neg z2, if_pos (by rcases t2 with t2 | t2 | t2; exact absurd t2 z1; exact absurd t2 z2; exact t2)]
        · rw [if_neg t2, if_neg t3, if_neg t4]
          obtain ⟨y1, y2, y3⟩ := P1 (mI (mI C 5 3 (zN (q + 1))) 5 4 kd) (mI_s ⟨rfl, rfl⟩) (by rw [mI_n (by omega), mI_s ⟨rfl, rfl⟩, t1]) (fun c k w => by rw [mI_n (by omega), mI_n (by omega)]) rfl
          exact ⟨_, R2, p', q, rfl, rfl, y1, b1, s7, Or.inr (by omega), y2, y3, P2⟩
  · have eh : hbt n bt q = -1 := by
      unfold hbt
      rw [if_neg qn]
    rw [eh, if_neg (by decide), if_pos rfl]
    refine ⟨_, _, q, q, rfl, rfl, ⟨?_, ?_, ?_, ?_, by omega, Or.inl ⟨mI_s ⟨rfl, rfl⟩, mI_s ⟨rfl, rfl⟩⟩⟩, b1, b2, Or.inl (mI_s ⟨rfl, rfl⟩), fun c k w => ?_, g2, fun c k w => ?_⟩
    · rw [mI_n (by omega)]
      exact d3
    · rw [mI_n (by omega)]
      exact d26
    · rw [mI_n (by omega)]
      exact d5
    · rw [mI_n (by omega)]
      exact d27
    · rw [mI_n (by omega)]
      exact fC c k w
    · rw [mI_n (by omega)]
      exact fR c k w
