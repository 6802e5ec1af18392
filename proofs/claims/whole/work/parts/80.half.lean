/-! what was told, as bits; halves; what reading a text may touch -/
def tbt (x : Int32) (w : Nat) : Bool := x.toBitVec.getLsbD w
theorem shw : ∀ w, w < 19 → ((zN w &&& (31 : Int32)).toBitVec.smod 32).toNat = w := by decide
theorem b1at : ∀ i, i < 32 → (1#32).getLsbD i = decide (i = 0) := by decide
theorem tbt_get (x : Int32) {w : Nat} (h : w < 19) : ((x >>> (zN w &&& (31 : Int32))) &&& (1 : Int32) = 1) ↔ tbt x w = true := by
  have e0 : (x.toBitVec.sshiftRight w).getLsbD 0 = x.toBitVec.getLsbD w := by
    rw [BitVec.getLsbD_sshiftRight, decide_eq_false (show ¬ (32 ≤ 0) by omega), if_pos (show w + 0 < 32 by omega)]
    rfl
  have eS : ((x >>> (zN w &&& (31 : Int32))) &&& (1 : Int32)).toBitVec = (x.toBitVec.sshiftRight w) &&& 1#32 := by
    show (x.toBitVec.sshiftRight ((zN w &&& (31 : Int32)).toBitVec.smod 32).toNat) &&& 1#32 = _
    rw [shw w h]
  refine ⟨fun z => ?_, fun z => ?_⟩
  · have z := congrArg Int32.toBitVec z
    rw [eS] at z
    have z := congrArg (fun b => b.getLsbD 0) z
    have z : (x.toBitVec.sshiftRight w &&& 1#32).getLsbD 0 = (1#32).getLsbD 0 := z
    rw [BitVec.getLsbD_and, e0, b1at 0 (by omega)] at z
    unfold tbt
    simpa using z
  · apply Int32.toBitVec_inj.1
    rw [eS]
    show _ = 1#32
    apply BitVec.eq_of_getLsbD_eq
    intro i hi
    rw [BitVec.getLsbD_and, b1at i hi]
    by_cases q : i = 0
    · rw [q, e0, show x.toBitVec.getLsbD w = true from z]
      rfl
    · rw [decide_eq_false q, Bool.and_false]
theorem sh1 : ∀ w, w < 19 → ∀ j, j < 19 → ((1 : Int32) <<< (zN w &&& (31 : Int32))).toBitVec.getLsbD j = decide (j = w) := by decide +kernel
theorem tbt_or (x : Int32) {w j : Nat} (h : w < 19) (hj : j < 19) : tbt (x ||| ((1 : Int32) <<< (zN w &&& (31 : Int32)))) j = (tbt x j || decide (j = w)) := by
  unfold tbt
  show (x.toBitVec ||| ((1 : Int32) <<< (zN w &&& (31 : Int32))).toBitVec).getLsbD j = _
  rw [BitVec.getLsbD_or, sh1 w h j hj]
theorem tbt_on (x : Int32) {w j : Nat} (h : w < 19) (hj : j < 19) (ne : j ≠ w) : tbt (x ||| ((1 : Int32) <<< (zN w &&& (31 : Int32)))) j = tbt x j := by
  rw [tbt_or x h hj, decide_eq_false ne, Bool.or_false]
theorem tbt_os (x : Int32) {w : Nat} (h : w < 19) : tbt (x ||| ((1 : Int32) <<< (zN w &&& (31 : Int32)))) w = true := by
  rw [tbt_or x h h, decide_eq_true rfl, Bool.or_true]
/-- the reference's other half as the one at hand -/
def hfM (m : Mem) : Mem := (fun c k => if 101 ≤ c ∧ c ≤ 120 then m.1 c (hf c + k) else m.1 c k, m.2)
theorem hfM_at {m : Mem} {c k : Nat} (h1 : 101 ≤ c) (h2 : c ≤ 120) : (hfM m).1 c k = m.1 c (hf c + k) := if_pos ⟨h1, h2⟩
theorem lay_hf : ∀ c, c < 121 → 101 ≤ c → lay c = (1, 2 * hf c) ∧ hf c ≤ 64 := by decide
theorem half_ok {N c h : Nat} (hl : (lay c).2 = 2 * h) (hh : h ≤ 64) : ∀ rem k n m, k + rem = h → rem < n → ∃ M, fX12_half_7 N n c (zN h) (zN k) m = some M ∧ M.2 = m.2 ∧ ∀ q j, M.1 q j = if q = c ∧ k ≤ j ∧ j < h then m.1 c (h + j) else m.1 q j := by
  intro rem
  induction rem with
  | zero =>
    intro k n m hk hn
    obtain ⟨n', rfl, _⟩ := fuel hn
    rw [fX12_half_7, if_pos (zle' (by omega) (by omega) (by omega))]
    exact ⟨m, rfl, rfl, fun q j => by rw [if_neg (by omega)]⟩
  | succ rem ih =>
    intro k n m hk hn
    obtain ⟨n', rfl, hn⟩ := fuel hn
    rw [fX12_half_7, if_neg (zle (by omega) (by omega) (by omega)), zN_add, g_in (by omega) (by omega), g_in (by omega) (by omega), zN_cl (by omega), zN_cl (by omega), zN_s]
    obtain ⟨M, r1, r2, r3⟩ := ih (k + 1) n' (mI m c k (m.1 c (h + k))) (by omega) (by omega)
    refine ⟨M, r1, r2, fun q j => ?_⟩
    rw [r3]
    by_cases w : q = c ∧ k ≤ j ∧ j < h
    · rw [if_pos w]
      by_cases y : j = k
      · rw [if_neg (by omega), mI_s (by omega), y]
      · rw [if_pos (by omega), mI_n (by omega)]
    · rw [if_neg w, if_neg (by omega), mI_n (by omega)]
def HS (m : Mem) (c : Nat) (M : Mem) : Prop := M.2 = m.2 ∧ ∀ q j, M.1 q j = if 101 ≤ q ∧ q < c ∧ j < hf q then m.1 q (hf q + j) else m.1 q j
theorem half_seq {N c : Nat} {m M : Mem} (hN : 100 ≤ N) (h1 : 101 ≤ c) (h2 : c ≤ 120) (h : HS m c M) : ∃ M', fX12_half N c M = some M' ∧ HS m (c + 1) M' := by
  obtain ⟨l1, l2⟩ := lay_hf c (by omega) h1
  unfold fX12_half
  have ed : Int32.ofNat (lay c).2 / (2 : Int32) = zN (hf c) := by
    rw [l1]
    show zN (2 * hf c) / zN 2 = _
    rw [zN_div (by omega) (by omega), show 2 * hf c / 2 = hf c from by omega]
  rw [ed]
  obtain ⟨M', r1, r2, r3⟩ := half_ok (N := N) (c := c) (h := hf c) (by rw [l1]) l2 (hf c) 0 N M (by omega) (by omega)
  refine ⟨M', r1, r2.trans h.1, fun q j => ?_⟩
  rw [r3]
  by_cases w : q = c
  · rw [w]
    by_cases y : j < hf c
    · rw [if_pos (by omega), if_pos (by omega), h.2, if_neg (by omega)]
    · rw [if_neg (by omega), if_neg (by omega), h.2, if_neg (by omega)]
  · rw [if_neg (by omega), h.2]
    by_cases y : 101 ≤ q ∧ q < c ∧ j < hf q
    · rw [if_pos y, if_pos (by omega)]
    · rw [if_neg y, if_neg (by omega)]
/-- what reading a text may touch -/
def TFC (o : Nat) (m m' : Mem) : Prop := (∀ c j, ¬ (2 ≤ c ∧ c ≤ 5) → ¬ (o ≤ c ∧ c < o + 16) → m'.1 c j = m.1 c j) ∧ (∀ i, i < 5 → m'.1 (o + 1 + 2 * i) 0 = m.1 (o + 1 + 2 * i) 0) ∧ m'.2 = m.2
def TFR (m m' : Mem) : Prop := ∀ c j, ¬ (c = 99 ∧ 23 ≤ j ∧ j ≤ 35 ∧ j ≠ 25 ∧ j ≠ 32 ∧ j ≠ 33) → ¬ (101 ≤ c ∧ c ≤ 120 ∧ hf c ≤ j) → m'.1 c j = m.1 c j
theorem TFC.rf {o : Nat} {m : Mem} : TFC o m m := ⟨fun _ _ _ _ => rfl, fun _ _ => rfl, rfl⟩
theorem TFR.rf {m : Mem} : TFR m m := fun _ _ _ _ => rfl
theorem TFC.tr {o : Nat} {m m' m'' : Mem} (h : TFC o m m') (h' : TFC o m' m'') : TFC o m m'' := ⟨fun c j a b => (h'.1 c j a b).trans (h.1 c j a b), fun i hi => (h'.2.1 i hi).trans (h.2.1 i hi), h'.2.2.trans h.2.2⟩
theorem TFR.tr {m m' m'' : Mem} (h : TFR m m') (h' : TFR m' m'') : TFR m m'' := fun c j a b => (h' c j a b).trans (h c j a b)
theorem TFC.of {o : Nat} {m m' : Mem} (h1 : ∀ c j, ¬ (2 ≤ c ∧ c ≤ 5) → ¬ (o ≤ c ∧ c < o + 16 ∧ ¬ (o + 1 ≤ c ∧ c ≤ o + 10 ∧ (c - o) % 2 = 1 ∧ j = 0)) → m'.1 c j = m.1 c j) (h2 : m'.2 = m.2) (ho : 7 ≤ o) : TFC o m m' := ⟨fun c j a b => h1 c j a (by omega), fun i hi => h1 _ _ (by omega) (by omega), h2⟩
theorem TFC.law {l s k o : Nat} {m m' : Mem} (h : LFC l s k m m') (hl : l = o + 11) (ho : 7 ≤ o) : TFC o m m' := TFC.of (fun c j a b => h.1 c j (by omega) (by omega) (by omega) (by omega) (by omega) (by omega)) h.2 ho
theorem TFR.law {s : Nat} {m m' : Mem} (h : LFR s m m') : TFR m m' := fun c j a b => h c j (fun z => a (by omega)) (fun z => b (by rw [z.1, z.2]; decide)) (fun z => b (by
  obtain ⟨z1, z2⟩ := z
  rcases z1 with z1 | z1
  · rw [z1, show hf 119 = 64 from rfl]
    omega
  · rw [z1, show hf 120 = 64 from rfl]
    omega))
theorem TFC.fail {o : Nat} {m : Mem} {x y : Int32} (ho : 7 ≤ o) : TFC o m (mI (mI m 2 7 x) 2 8 y) := TFC.of (fun c j a b => by rw [mI_n (by omega), mI_n (by omega)]) rfl ho
theorem TFR.fail {m : Mem} {x y : Int32} : TFR m (mI (mI m 99 30 x) 99 31 y) := fun c j a b => by rw [mI_n (by omega), mI_n (by omega)]
theorem TFR.up {m : Mem} {c k : Nat} {v : Int32} (h1 : 101 ≤ c) (h2 : c ≤ 120) (h3 : hf c ≤ k) : TFR m (mI m c k v) := fun c' j a b => mI_n (by
  by_cases e : c' = c
  · rw [e] at b
    omega
  · exact Or.inl e)
theorem TFR.up9 {m : Mem} {k : Nat} {v : Int32} (h : 23 ≤ k ∧ k ≤ 35 ∧ k ≠ 25 ∧ k ≠ 32 ∧ k ≠ 33) : TFR m (mI m 99 k v) := fun c' j a b => mI_n (by omega)
/-! once at fault, the reference reads on without effect -/
theorem numeral_f {N : Nat} {x y : Int32} {m : Mem} (f : ¬ m.1 99 30 = 0) : fX12_numeral N x y m = some (x, m) := by
  unfold fX12_numeral
  rw [if_neg f]
theorem fresh_f {N c : Nat} {x y : Int32} {m : Mem} (f : ¬ m.1 99 30 = 0) : fX12_fresh N c x y m = some (0, m) := by
  unfold fX12_fresh
  rw [if_neg f]
theorem atHand_f {N c : Nat} {x y : Int32} {m : Mem} (f : ¬ m.1 99 30 = 0) : fX12_atHand N c x y m = some (0, m) := by
  unfold fX12_atHand
  rw [if_neg f]
theorem fr_ok {i : Nat} (h : i < 8) (m : Mem) : fX12_fresher (zN i) m = some (m.1 101 (8 + i)) := by
  unfold fX12_fresher
  rw [show (8 : Int32) + zN i = zN (8 + i) from zN_add 8 i, g_in (by omega) (by omega), zN_cl (by omega)]
theorem rd_ok {i : Nat} (h : i < 8) (x : Int32) (m : Mem) : fX12_reads (zN i) x m = some (mI m 101 (8 + i) x) := by
  unfold fX12_reads
  rw [show (8 : Int32) + zN i = zN (8 + i) from zN_add 8 i, g_in (by omega) (by omega), zN_cl (by omega)]
theorem tubAhead_f {N : Nat} {m : Mem} (f : ¬ m.1 99 30 = 0) : fX12_tubAhead N m = some (0, m) := by
  unfold fX12_tubAhead
  rw [show fX12_fresher (1 : Int32) m = _ from fr_ok (i := 1) (by omega) m, b_some, atHand_f f, b_some, goOn_f f, b_some]
/-! a number where one is due -/
theorem isnum_rel {p pl lo hi : Nat} {mC mR : Mem} (tk : Tkn p pl mC mR) (fl : mR.1 99 30 = 0) (h1 : lo ≤ hi) (h2 : hi ≤ 99999) : (∃ v, 1 ≤ v ∧ v ≤ 5 ∧ fX8_isNumber (zN lo) (zN hi) mC = some (0, mI (mI mC 2 7 (zN v)) 2 8 (mC.1 5 5)) ∧ ∀ N, fX12_numeral N (zN lo) (zN hi) mR = some (zN lo, mI (mI mR 99 30 (zN v)) 99 31 (mR.1 99 27))) ∨ (∃ a, lo ≤ a ∧ a ≤ hi ∧ mC.1 5 6 = zN a ∧ fX8_isNumber (zN lo) (zN hi) mC = some (1, mC) ∧ ∀ N, fX12_numeral N (zN lo) (zN hi) mR = (fX12_token N mR).bind (fun q => some (zN a, q))) := by
  have kk := tk.kk
  have W46 : ∀ (v N : Nat), 1 ≤ v → v ≤ 5 → fX12_numeral_46 N (zN lo) (mI (mI mR 99 30 (zN v)) 99 31 (mR.1 99 27)) = some (zN lo, mI (mI mR 99 30 (zN v)) 99 31 (mR.1 99 27)) := by
    intro v N a b
    unfold fX12_numeral_46
    rw [if_neg (FlR.mk tk ⟨a, b⟩).2.2]
  unfold fX8_isNumber
  by_cases q : mC.1 5 4 = (21 : Int32)
  · have so := kk.nm.1.mpr q
    obtain ⟨a, b, ha, hb, hab⟩ : ∃ a b, mC.1 5 6 = zN a ∧ mR.1 99 29 = zN b ∧ NumR a b := by
      rcases kk with ⟨z1, z2⟩ | ⟨w', w1, z1, z2, z3⟩ | ⟨z1, z2, z3⟩ | ⟨z1, z2, z3⟩ | ⟨x', y', hx', z1, z2, z3⟩ | ⟨z1, z2⟩
      · exact absurd (z2.symm.trans so) (by decide)
      · exact absurd (z2.symm.trans so) (by decide)
      · exact absurd (z2.symm.trans so) (by decide)
      · exact z3
      · exact absurd (z2.symm.trans so) (by decide)
      · exact absurd (z2.symm.trans so) (by decide)
    have NR : a ≤ 1000000 ∧ b ≤ 999999 := by rcases hab with z | z <;> omega
    rw [if_pos q, ha]
    have F40 : fX8_isNumber_40 mC = some (0, mI (mI mC 2 7 (zN 2)) 2 8 (mC.1 5 5)) := by
      unfold fX8_isNumber_40
      rw [show fX8_fail (2 : Int32) mC = _ from fail_ok (v := 2), b_some, if_pos rfl]
    have F41 : ∀ N, fX12_numeral_41 N (zN lo) mR = some (zN lo, mI (mI mR 99 30 (zN 2)) 99 31 (mR.1 99 27)) := by
      intro N
      unfold fX12_numeral_41
      rw [show fX12_wrong (2 : Int32) mR = _ from wrong_ok (v := 2) fl, b_some, W46 2 N (by omega) (by omega)]
    by_cases w1 : lo ≤ a
    · have w1b : lo ≤ b := by rcases hab with z | z <;> omega
      rw [if_neg (zlt (by omega) (by omega) w1)]
      by_cases w2 : a ≤ hi
      · have eab : a = b := by rcases hab with z | z <;> omega
        rw [if_pos (zle' (by omega) (by omega) w2)]
        refine Or.inr ⟨a, w1, w2, rfl, rfl, fun N => ?_⟩
        unfold fX12_numeral
        rw [if_pos fl, if_pos so, hb, if_neg (zlt (by omega) (by omega) w1b), if_pos (zle' (by omega) (by omega) (by omega))]
        unfold fX12_numeral_46
        rw [if_pos fl, hb, eab]
      · have w2b : ¬ (b ≤ hi) := by rcases hab with z | z <;> omega
        rw [if_neg (zle (by omega) (by omega) (by omega)), F40]
        refine Or.inl ⟨2, by omega, by omega, rfl, fun N => ?_⟩
        unfold fX12_numeral
        rw [if_pos fl, if_pos so, hb, if_neg (zlt (by omega) (by omega) w1b), if_neg (zle (by omega) (by omega) (by omega)), F41]
    · have w1b : ¬ (lo ≤ b) := by rcases hab with z | z <;> omega
      rw [if_pos (show zN a < zN lo from by rw [zN_lt (by omega) (by omega)]; omega), F40]
      refine Or.inl ⟨2, by omega, by omega, rfl, fun N => ?_⟩
      unfold fX12_numeral
      rw [if_pos fl, if_pos so, hb, if_pos (show zN b < zN lo from by rw [zN_lt (by omega) (by omega)]; omega), F41]
  · have so : ¬ (mR.1 99 28 = 2) := fun z => q (kk.nm.1.mp z)
    rw [if_neg q, show fX8_fail (1 : Int32) mC = _ from fail_ok (v := 1), b_some, if_pos (Or.inl rfl)]
    refine Or.inl ⟨1, by omega, by omega, rfl, fun N => ?_⟩
    unfold fX12_numeral
    rw [if_pos fl, if_neg so, show fX12_wrong (1 : Int32) mR = _ from wrong_ok (v := 1) fl, b_some, W46 1 N (by omega) (by omega)]
