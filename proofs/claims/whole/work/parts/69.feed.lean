/-! bytes fed -/
theorem b255 : ∀ i, i < 32 → (255#32).getLsbD i = decide (i < 8) := by decide
theorem low8 {b c : BitVec 32} (h : ∀ i, i < 8 → b.getLsbD i = c.getLsbD i) : b &&& 255#32 = c &&& 255#32 := by
  apply BitVec.eq_of_getLsbD_eq
  intro i hi
  rw [BitVec.getLsbD_and, BitVec.getLsbD_and, b255 i hi]
  by_cases q : i < 8
  · rw [h i q]
  · rw [decide_eq_false q, Bool.and_false, Bool.and_false]
theorem shs : ∀ s, s = 24 ∨ s = 16 ∨ s = 8 ∨ s = 0 → ((zN s &&& (31 : Int32)).toBitVec.smod 32).toNat = s ∧ ((zN s).toUInt32 &&& Int32.toUInt32 31).toNat % 32 = s := by
  intro s h
  rcases h with rfl | rfl | rfl | rfl <;> decide
theorem byte_ok (x : Int32) {s : Nat} (h : s = 24 ∨ s = 16 ∨ s = 8 ∨ s = 0) : ∃ v, v < 256 ∧ (x >>> (zN s &&& (31 : Int32))) &&& (255 : Int32) = zN v ∧ (vp_nar .byte (x.toUInt32 >>> ((zN s).toUInt32 &&& Int32.toUInt32 31)).toInt32.toInt8.toInt32) &&& (255 : Int32) = zN v := by
  have hs : s ≤ 24 := by omega
  obtain ⟨s1, s2⟩ := shs s h
  have E : ∀ y : Int32, ∃ v, v < 256 ∧ y &&& (255 : Int32) = zN v := by
    intro y
    obtain ⟨n, rfl⟩ := zN_any y
    exact ⟨n % 256, Nat.mod_lt _ (by omega), zN_and (j := 8) (by omega) _ (by decide)⟩
  obtain ⟨v, v1, v2⟩ := E (x >>> (zN s &&& (31 : Int32)))
  refine ⟨v, v1, v2, ?_⟩
  rw [← v2]
  apply Int32.toBitVec_inj.1
  show (vp_nar .byte (x.toUInt32 >>> ((zN s).toUInt32 &&& Int32.toUInt32 31)).toInt32.toInt8.toInt32).toBitVec &&& 255#32 = (x.toBitVec.sshiftRight ((zN s &&& (31 : Int32)).toBitVec.smod 32).toNat) &&& 255#32
  rw [s1]
  apply low8
  intro i hi
  have n1 : ∀ y : Int32, vp_nar .byte y = y.toInt8.toInt32 := fun y => rfl
  have t8 : ∀ y : Int32, ∀ i, i < 8 → y.toInt8.toInt32.toBitVec.getLsbD i = y.toBitVec.getLsbD i := by
    intro y i hi
    show ((y.toBitVec.signExtend 8).signExtend 32).getLsbD i = _
    rw [BitVec.getLsbD_signExtend, BitVec.getLsbD_signExtend, decide_eq_true (show i < 32 by omega), decide_eq_true hi, if_pos hi, if_pos (show i < 32 by omega), Bool.true_and, Bool.true_and]
  have e1 : (x.toUInt32 >>> ((zN s).toUInt32 &&& Int32.toUInt32 31)).toInt32.toBitVec = x.toBitVec >>> s := by
    show x.toBitVec >>> (((zN s).toUInt32 &&& Int32.toUInt32 31).toBitVec.umod 32) = x.toBitVec >>> s
    have : ((((zN s).toUInt32 &&& Int32.toUInt32 31).toBitVec.umod 32)).toNat = s := by
      show ((zN s).toUInt32 &&& Int32.toUInt32 31).toNat % 32 = s
      exact s2
    show x.toBitVec >>> ((((zN s).toUInt32 &&& Int32.toUInt32 31).toBitVec.umod 32)).toNat = x.toBitVec >>> s
    rw [this]
  rw [n1, t8 _ i hi, t8 _ i hi, e1, BitVec.getLsbD_sshiftRight, BitVec.getLsbD_ushiftRight, decide_eq_false (show ¬ (32 ≤ i) by omega), if_pos (show s + i < 32 by omega)]
  rfl
def bfC (x : Int32) (s : Nat) : Int32 := vp_nar .byte (x.toUInt32 >>> ((zN s).toUInt32 &&& Int32.toUInt32 31)).toInt32.toInt8.toInt32
def bfR (x : Int32) (s : Nat) : Int32 := (x >>> (zN s &&& (31 : Int32))) &&& (255 : Int32)
theorem put_step {N n t s : Nat} {x : Int32} {m : Mem} (e : m.1 0 1 = zN t) (ht : t < 700) (hs : s ≤ 24) : fX11_putBytes_3 N (n + 1) x (zN s) m = fX11_putBytes_3 N n x (zN s + (-8 : Int32)) (mI (mI m 1 t (bfC x s)) 0 1 (zN (t + 1))) := by
  rw [fX11_putBytes_3, if_neg (znn (by omega)), e, if_neg (znn (by omega)), if_neg (show ¬ (Int32.ofNat 700 ≤ zN t) from zle (a := 700) (by omega) (by omega) (by omega)), g_in (by omega) (by omega), zN_cl (by omega), mI_n (by omega), e, zN_s]
  rfl
theorem put4 {N t : Nat} {x : Int32} {m : Mem} (hN : 100 ≤ N) (e : m.1 0 1 = zN t) (ht : t + 4 ≤ 700) : ∃ M, fX11_putBytes N x m = some M ∧ M.1 0 1 = zN (t + 4) ∧ (∀ c j, ¬ (c = 0 ∧ j = 1) → ¬ (c = 1 ∧ t ≤ j ∧ j < t + 4) → M.1 c j = m.1 c j) ∧ M.2 = m.2 ∧ ∀ i, i < 4 → M.1 1 (t + i) = bfC x (24 - 8 * i) := by
  obtain ⟨n, rfl⟩ : ∃ n, N = n + 5 := ⟨N - 5, by omega⟩
  refine ⟨mI (mI (mI (mI (mI (mI (mI (mI m 1 t (bfC x 24)) 0 1 (zN (t + 1))) 1 (t + 1) (bfC x 16)) 0 1 (zN (t + 1 + 1))) 1 (t + 1 + 1) (bfC x 8)) 0 1 (zN (t + 1 + 1 + 1))) 1 (t + 1 + 1 + 1) (bfC x 0)) 0 1 (zN (t + 1 + 1 + 1 + 1)), ?_, mI_s ⟨rfl, rfl⟩, fun c j p q => ?_, rfl, fun i hi => ?_⟩
  · unfold fX11_putBytes
    rw [show (24 : Int32) = zN 24 from rfl, put_step e (by omega) (by omega), show zN 24 + (-8 : Int32) = zN 16 from rfl, put_step (mI_s ⟨rfl, rfl⟩) (by omega) (by omega), show zN 16 + (-8 : Int32) = zN 8 from rfl, put_step (mI_s ⟨rfl, rfl⟩) (by omega) (by omega), show zN 8 + (-8 : Int32) = zN 0 from rfl, put_step (mI_s ⟨rfl, rfl⟩) (by omega) (by omega), fX11_putBytes_3, if_pos (by decide)]
  · rw [mI_n (by omega), mI_n (by omega), mI_n (by omega), mI_n (by omega), mI_n (by omega), mI_n (by omega), mI_n (by omega), mI_n (by omega)]
  · have : i = 0 ∨ i = 1 ∨ i = 2 ∨ i = 3 := by omega
    rcases this with rfl | rfl | rfl | rfl
    · rw [mI_n (by omega), mI_n (by omega), mI_n (by omega), mI_n (by omega), mI_n (by omega), mI_n (by omega), mI_n (by omega), mI_s (by omega)]
    · rw [mI_n (by omega), mI_n (by omega), mI_n (by omega), mI_n (by omega), mI_n (by omega), mI_s (by omega)]
    · rw [mI_n (by omega), mI_n (by omega), mI_n (by omega), mI_s (by omega)]
    · rw [mI_n (by omega), mI_s (by omega)]
def xs5 (x1 x2 x3 x4 x5 : Int32) (q : Nat) : Int32 := if q < 1 then x1 else if q < 2 then x2 else if q < 3 then x3 else if q < 4 then x4 else x5
theorem feed_loop {N t : Nat} {x1 x2 x3 x4 x5 : Int32} (ht : t ≤ 680) : ∀ rem k n m, k + rem = 20 → rem < n → m.1 99 2 = zN t → ∃ M, fX12_feed_20 N n x1 x2 x3 x4 x5 (zN k) m = some (zN (t + 20), M) ∧ M.1 99 2 = zN (t + 20) ∧ (∀ c j, ¬ (c = 99 ∧ j = 2) → ¬ (c = 100 ∧ t + k ≤ j ∧ j < t + 20) → M.1 c j = m.1 c j) ∧ ∀ i, k ≤ i → i < 20 → M.1 100 (t + i) = bfR (xs5 x1 x2 x3 x4 x5 (i / 4)) (24 - 8 * (i % 4)) := by
  intro rem
  induction rem with
  | zero =>
    intro k n m hk hn e
    obtain ⟨n', rfl, _⟩ := fuel hn
    rw [fX12_feed_20, if_pos (show (20 : Int32) ≤ zN k from zle' (a := 20) (by omega) (by omega) (by omega)), e, show zN t + (20 : Int32) = zN (t + 20) from zN_add t 20, mI_s ⟨rfl, rfl⟩]
    exact ⟨_, rfl, mI_s ⟨rfl, rfl⟩, fun c j p q => mI_n (by omega), fun i a b => absurd b (by omega)⟩
  | succ rem ih =>
    intro k n m hk hn e
    obtain ⟨n', rfl, hn⟩ := fuel hn
    have S : fX12_feed_20 N (n' + 1) x1 x2 x3 x4 x5 (zN k) m = fX12_feed_20 N n' x1 x2 x3 x4 x5 (zN (k + 1)) (mI m 100 (t + k) (bfR (xs5 x1 x2 x3 x4 x5 (k / 4)) (24 - 8 * (k % 4)))) := by
      have F : ∀ y : Int32, y = xs5 x1 x2 x3 x4 x5 (k / 4) → fX12_feed_73 N (fun x1 x2 x3 x4 x5 x6 m => fX12_feed_20 N n' x1 x2 x3 x4 x5 x6 m) x1 x2 x3 x4 x5 (zN k) y m = fX12_feed_20 N n' x1 x2 x3 x4 x5 (zN (k + 1)) (mI m 100 (t + k) (bfR (xs5 x1 x2 x3 x4 x5 (k / 4)) (24 - 8 * (k % 4)))) := by
        intro y hy
        unfold fX12_feed_73
        rw [e, zN_add, g_in (by omega) (by omega), zN_cl (by omega), zN_s, show jrem (zN k) (4 : Int32) = zN (k % 4) from jrem_zN (y := 4) (by omega) (by omega), show (8 : Int32) * zN (k % 4) = zN (8 * (k % 4)) from zN_mul 8 _, show (24 : Int32) - zN (8 * (k % 4)) = zN (24 - 8 * (k % 4)) from zN_sub (a := 24) (by omega), hy]
        rfl
      have c4 : ∀ a : Nat, a ≤ 20 → (zN a ≤ zN k) = (a ≤ k) := fun a ha => zN_le (by omega) (by omega)
      rw [fX12_feed_20, if_neg (show ¬ ((20 : Int32) ≤ zN k) from zle (a := 20) (by omega) (by omega) (by omega))]
      by_cases q1 : 4 ≤ k
      · rw [if_pos (show (4 : Int32) ≤ zN k from zle' (a := 4) (by omega) (by omega) q1)]
        by_cases q2 : 8 ≤ k
        · rw [if_pos (show (8 : Int32) ≤ zN k from zle' (a := 8) (by omega) (by omega) q2)]
          by_cases q3 : 12 ≤ k
          · rw [if_pos (show (12 : Int32) ≤ zN k from zle' (a := 12) (by omega) (by omega) q3)]
            by_cases q4 : 16 ≤ k
            · rw [if_pos (show (16 : Int32) ≤ zN k from zle' (a := 16) (by omega) (by omega) q4)]
              exact F x5 (by unfold xs5; rw [if_neg (by omega), if_neg (by omega), if_neg (by omega), if_neg (by omega)])
            · rw [if_neg (show ¬ ((16 : Int32) ≤ zN k) from zle (a := 16) (by omega) (by omega) (by omega))]
              exact F x4 (by unfold xs5; rw [if_neg (by omega), if_neg (by omega), if_neg (by omega), if_pos (by omega)])
          · rw [if_neg (show ¬ ((12 : Int32) ≤ zN k) from zle (a := 12) (by omega) (by omega) (by omega))]
            exact F x3 (by unfold xs5; rw [if_neg (by omega), if_neg (by omega), if_pos (by omega)])
        · rw [if_neg (show ¬ ((8 : Int32) ≤ zN k) from zle (a := 8) (by omega) (by omega) (by omega))]
          exact F x2 (by unfold xs5; rw [if_neg (by omega), if_pos (by omega)])
      · rw [if_neg (show ¬ ((4 : Int32) ≤ zN k) from zle (a := 4) (by omega) (by omega) (by omega))]
        exact F x1 (by unfold xs5; rw [if_pos (by omega)])
    rw [S]
    obtain ⟨M, a1, a2, a3, a4⟩ := ih (k + 1) n' (mI m 100 (t + k) (bfR (xs5 x1 x2 x3 x4 x5 (k / 4)) (24 - 8 * (k % 4)))) (by omega) (by omega) (by rw [mI_n (by omega)]; exact e)
    refine ⟨M, a1, a2, fun c j p q => ?_, fun i p q => ?_⟩
    · rw [a3 c j p (by omega), mI_n (by omega)]
    · by_cases w : i = k
      · rw [w, a3 100 (t + k) (by omega) (by omega), mI_s ⟨rfl, rfl⟩]
      · exact a4 i (by omega) q
/-- how many places of a row of the reference stand for the orders at hand -/
def hf (c : Nat) : Nat := [8, 6, 6, 6, 6, 6, 6, 12, 12, 12, 10, 10, 10, 8, 8, 8, 3, 3, 64, 64].getD (c - 101) 0
theorem hf_row : ∀ i, i < 5 → ∀ c, c < 3 → hf (102 + 3 * i + c) = mostT i := by decide
theorem OrdR.zm {Z : Nat → Nat} {o : Nat} {mC mR : Mem} (h : OrdR Z o mC mR) : ∀ i, i < 5 → Z i ≤ mostT i := by
  have hz := h.zb
  intro i hi
  have : i = 0 ∨ i = 1 ∨ i = 2 ∨ i = 3 ∨ i = 4 := by omega
  rcases this with rfl | rfl | rfl | rfl | rfl
  · exact hz.1
  · exact hz.2.1
  · exact hz.2.2.1
  · exact hz.2.2.2.1
  · exact hz.2.2.2.2
theorem KCode.cong3 {o : Nat} {mC mR mC' mR' : Mem} {f t : Nat} (ht : t ≤ 64) (hC : ∀ c k, o ≤ c → c < o + 16 → mC'.1 c k = mC.1 c k) (hR : ∀ c k, 101 ≤ c → c ≤ 120 → k < hf c → mR'.1 c k = mR.1 c k) (h : KCode o mC mR f t) : KCode o mC' mR' f t := by
  obtain ⟨d, h1, h2, h3⟩ := h
  refine ⟨d, h1, h2, fun i a b => ?_⟩
  rw [hC _ _ (by omega) (by omega), hC _ _ (by omega) (by omega), hR 119 _ (by omega) (by omega) (show i < 64 by omega), hR 120 _ (by omega) (by omega) (show i < 64 by omega)]
  exact h3 i a b
theorem OrdR.cong3 {Z : Nat → Nat} {o : Nat} {mC mR mC' mR' : Mem} (h : OrdR Z o mC mR) (hC : ∀ c k, o ≤ c → c < o + 16 → mC'.1 c k = mC.1 c k) (hR : ∀ c k, 101 ≤ c → c ≤ 120 → k < hf c → mR'.1 c k = mR.1 c k) : OrdR Z o mC' mR' := by
  have hz := h.zb
  have hm := h.zm
  refine ⟨h.ho, h.zb, fun i hi => ?_, fun i hi => ?_, fun i k c hi hk hc => ?_, fun k hk => ?_, fun k hk => ?_, fun k hk => ?_, fun k hk => ?_, fun k hk => ?_, ?_, ?_, fun r hr => ?_, ?_⟩
  · rw [hC _ _ (by omega) (by omega)]
    exact h.sC i hi
  · rw [hR 101 _ (by omega) (by omega) (show i < 8 by omega)]
    exact h.sR i hi
  · have := hm i hi
    rw [hC _ _ (by omega) (by omega), hR _ _ (by omega) (by omega) (by rw [hf_row i hi c hc]; omega)]
    exact h.rw i k c hi hk hc
  · rw [hR 103 _ (by omega) (by omega) (show k < 6 by omega), hR 104 _ (by omega) (by omega) (show k < 6 by omega)]
    exact h.kb k hk
  · rw [hR 106 _ (by omega) (by omega) (show k < 6 by omega), hR 107 _ (by omega) (by omega) (show k < 6 by omega)]
    exact h.tl k hk
  · rw [hR 108 _ (by omega) (by omega) (show k < 12 by omega), hR 109 _ (by omega) (by omega) (show k < 12 by omega)]
    exact h.st k hk
  · rw [hR 111 _ (by omega) (by omega) (show k < 10 by omega), hR 112 _ (by omega) (by omega) (show k < 10 by omega)]
    exact h.ca k hk
  · rw [hR 114 _ (by omega) (by omega) (show k < 8 by omega), hR 115 _ (by omega) (by omega) (show k < 8 by omega), hR 116 _ (by omega) (by omega) (show k < 8 by omega)]
    exact h.pi k hk
  · rw [hC _ _ (by omega) (by omega), hR 101 _ (by omega) (by omega) (show 5 < 8 by omega)]
    exact h.fl
  · rw [hC _ _ (by omega) (by omega), hR 101 _ (by omega) (by omega) (show 6 < 8 by omega)]
    exact h.sd
  · obtain ⟨f, t, a1, a2, a3, a4, a5, a6, a7⟩ := h.lw r hr
    refine ⟨f, t, a1, a2, ?_, ?_, ?_, ?_, fun q => (a7 q).cong3 a2 hC hR⟩
    · rw [hC _ _ (by omega) (by omega)]
      exact a3
    · rw [hR 117 _ (by omega) (by omega) (show r < 3 by omega)]
      exact a4
    · rw [hC _ _ (by omega) (by omega)]
      exact a5
    · rw [hR 118 _ (by omega) (by omega) (show r < 3 by omega)]
      exact a6
  · rw [hC _ _ (by omega) (by omega), hR 101 _ (by omega) (by omega) (show 7 < 8 by omega)]
    exact h.kn
theorem InvZ.tap {Z : Nat → Nat} {o nt nt' nu nf : Nat} {mC mR mC' mR' : Mem} (h : InvZ Z o nt nu nf mC mR) (hT : TapR mC' mR' nt') (hC : ∀ c k, ¬ (c = 0 ∧ k = 1) → c ≠ 1 → mC'.1 c k = mC.1 c k) (hJ : mC'.2 = mC.2) (hR : ∀ c k, ¬ (c = 99 ∧ k = 2) → c ≠ 100 → mR'.1 c k = mR.1 c k) : InvZ Z o nt' nu nf mC' mR' := by
  have hz := h.nw.zz
  have ho := h.od.o25
  refine ⟨h.od.cong3 (fun c k q q' => hC c k (by omega) (by omega)) (fun c k a b _ => hR c k (by omega) (by omega)), ?_, h.nw.cong (fun c k a b => hC c k (by omega) (by omega)) (by rw [hJ]) (fun c a b => hR c _ (by omega) (by omega)) (fun c k a b e => hR c _ (by omega) (by omega)), ?_, hT, ?_, ?_, h.ps.cong hz (hC _ _ (by omega) (by omega)) (fun k => hC _ _ (by omega) (by omega)) (fun c k a b e => hR _ _ (by omega) (by omega)) (fun c k a b => hR _ _ (by omega) (by omega)) (fun c k a b e => hR _ _ (by omega) (by omega)) (hR _ _ (by omega) (by omega)), h.fa.cong (fun c k a b => hC _ _ (by omega) (by omega)) (hR _ _ (by omega) (by omega)) (hR _ _ (by omega) (by omega)) (fun c k a b => hR _ _ (by omega) (by omega)), h.cs.cong (fun w => hC _ _ (by omega) (by omega)) (fun o i a b => hC _ _ (by omega) (by omega))⟩
  · rw [hJ]
    exact h.sp
  · rw [hC 0 8 (by omega) (by omega), hR 99 50 (by omega) (by omega)]
    rcases h.im with q | ⟨q1, q2, q3⟩
    · exact Or.inl q
    · exact Or.inr ⟨q1, q2, q3.cong (fun c k a b => hC c k (by omega) (by omega)) (by rw [hJ]) (fun c a b => hR c _ (by omega) (by omega)) (fun c k a b e => hR c _ (by omega) (by omega))⟩
  · rw [hC 2 7 (by omega) (by omega), hC 2 8 (by omega) (by omega), hR 99 32 (by omega) (by omega), hR 99 33 (by omega) (by omega)]
    exact h.ft
  · rw [hR 99 52 (by omega) (by omega), hR 99 53 (by omega) (by omega)]
    exact h.ty
theorem op0 {N : Nat} (hN : 1000 ≤ N) : OP0 Inv N := by
  intro mC mR x1 x2 x3 x4 x5 ⟨Z, o, nt, nu, nf, h⟩
  have h := h.th 0
  unfold fX11_feed fX12_feed
  generalize mI mR 99 0 (0 : Int32) = R at h ⊢
  have hb := h.tp.nb
  rw [h.tp.tc, h.tp.tr]
  by_cases q : nt ≤ 680
  · rw [if_pos (show zN nt ≤ (680 : Int32) from zle' (c := 680) (by omega) (by omega) q), if_pos (show zN nt ≤ (680 : Int32) from zle' (c := 680) (by omega) (by omega) q)]
    obtain ⟨M1, a1, a2, a3, a4, a5⟩ := put4 (N := N) (x := x1) (by omega) h.tp.tc (by omega)
    obtain ⟨M2, b1, b2, b3, b4, b5⟩ := put4 (N := N) (x := x2) (by omega) a2 (by omega)
    obtain ⟨M3, c1, c2, c3, c4, c5⟩ := put4 (N := N) (x := x3) (by omega) b2 (by omega)
    obtain ⟨M4, d1, d2, d3, d4, d5⟩ := put4 (N := N) (x := x4) (by omega) c2 (by omega)
    obtain ⟨M5, e1, e2, e3, e4, e5⟩ := put4 (N := N) (x := x5) (by omega) d2 (by omega)
    obtain ⟨R', r1, r2, r3, r4⟩ := feed_loop (N := N) (x1 := x1) (x2 := x2) (x3 := x3) (x4 := x4) (x5 := x5) q 20 0 N R (by omega) (by omega) h.tp.tr
    rw [a1, b_some, b1, b_some, c1, b_some, d1, b_some, e1, b_some, e2, show fX12_feed_20 N N x1 x2 x3 x4 x5 (0 : Int32) R = _ from r1, show nt + 4 + 4 + 4 + 4 + 4 = nt + 20 from by omega]
    have V : ∀ i, i < 20 → M5.1 1 (nt + i) = bfC (xs5 x1 x2 x3 x4 x5 (i / 4)) (24 - 8 * (i % 4)) := by
      intro i hi
      unfold xs5
      by_cases w1 : i / 4 < 1
      · have := a5 (i % 4) (by omega)
        rw [if_pos w1, ← this, e3 _ _ (by omega) (by omega), d3 _ _ (by omega) (by omega), c3 _ _ (by omega) (by omega), b3 _ _ (by omega) (by omega), show i % 4 = i from by omega]
      · rw [if_neg w1]
        by_cases w2 : i / 4 < 2
        · have := b5 (i % 4) (by omega)
          rw [if_pos w2, ← this, e3 _ _ (by omega) (by omega), d3 _ _ (by omega) (by omega), c3 _ _ (by omega) (by omega), show nt + 4 + i % 4 = nt + i from by omega]
        · rw [if_neg w2]
          by_cases w3 : i / 4 < 3
          · have := c5 (i % 4) (by omega)
            rw [if_pos w3, ← this, e3 _ _ (by omega) (by omega), d3 _ _ (by omega) (by omega), show nt + 4 + 4 + i % 4 = nt + i from by omega]
          · rw [if_neg w3]
            by_cases w4 : i / 4 < 4
            · have := d5 (i % 4) (by omega)
              rw [if_pos w4, ← this, e3 _ _ (by omega) (by omega), show nt + 4 + 4 + 4 + i % 4 = nt + i from by omega]
            · have := e5 (i % 4) (by omega)
              rw [if_neg w4, ← this, show nt + 4 + 4 + 4 + 4 + i % 4 = nt + i from by omega]
    have T : TapR M5 R' (nt + 20) := by
      refine ⟨by omega, by rw [e2, show nt + 4 + 4 + 4 + 4 + 4 = nt + 20 from by omega], r2, fun j hj => ?_⟩
      by_cases w : j < nt
      · rw [r3 _ _ (by omega) (by omega), e3 _ _ (by omega) (by omega), d3 _ _ (by omega) (by omega), c3 _ _ (by omega) (by omega), b3 _ _ (by omega) (by omega), a3 _ _ (by omega) (by omega)]
        exact h.tp.by j w
      · obtain ⟨i, rfl⟩ : ∃ i, j = nt + i := ⟨j - nt, by omega⟩
        obtain ⟨v, v1, v2, v3⟩ := byte_ok (xs5 x1 x2 x3 x4 x5 (i / 4)) (s := 24 - 8 * (i % 4)) (by omega)
        refine ⟨v, v1, ?_, ?_⟩
        · rw [r4 i (by omega) (by omega)]
          exact v2
        · rw [V i (by omega)]
          exact v3
    have I : InvZ Z o (nt + 20) nu nf M5 R' := by
      refine h.tap T (fun c k p1 p2 => ?_) (by rw [e4, d4, c4, b4, a4]) (fun c k p1 p2 => r3 c k (by omega) (by omega))
      rw [e3 _ _ (by omega) (by omega), d3 _ _ (by omega) (by omega), c3 _ _ (by omega) (by omega), b3 _ _ (by omega) (by omega), a3 _ _ (by omega) (by omega)]
    exact ⟨_, _, _, rfl, rfl, I.i⟩
  · rw [if_neg (show ¬ (zN nt ≤ (680 : Int32)) from zle (c := 680) (by omega) (by omega) (by omega)), if_neg (show ¬ (zN nt ≤ (680 : Int32)) from zle (c := 680) (by omega) (by omega) (by omega))]
    exact ⟨-1, _, _, rfl, rfl, h.i⟩
