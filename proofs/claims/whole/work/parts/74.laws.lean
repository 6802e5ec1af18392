/-! steps of reading a law -/
def CM (sg nu so va : Int32) : Prop := (∃ j, j < 7 ∧ sg = zN (14 + j) ∧ so = zN 1 ∧ va = zN j) ∨ (∃ v, v ≤ 9999 ∧ sg = zN 21 ∧ nu = zN v ∧ so = zN 0 ∧ va = zN v) ∨ (∃ x, isOp x = true ∧ sg = zN x ∧ so = zN 2 ∧ va = zN (opc x))
def RK (so va : Int32) (a b : Nat) : Prop := (so = zN 1 ∧ b = a + 1) ∨ (so = zN 0 ∧ b = a + 1) ∨ (so = zN 2 ∧ va = zN 260 ∧ 1 ≤ a ∧ b = a) ∨ (so = zN 2 ∧ va ≠ zN 260 ∧ 2 ≤ a ∧ a = b + 1)
def RSeg (m : Mem) (a b D E : Nat) : Prop := ∃ d : Nat → Nat, d a = D ∧ d b = E ∧ ∀ j, a ≤ j → j < b → RK (m.1 119 (64 + j)) (m.1 120 (64 + j)) (d j) (d (j + 1))
theorem RSeg.cat {m : Mem} {a b c D E F : Nat} (h1 : RSeg m a b D E) (h2 : RSeg m b c E F) (hab : a ≤ b) (hbc : b ≤ c) : RSeg m a c D F := by
  obtain ⟨d1, a1, a2, a3⟩ := h1
  obtain ⟨d2, b1, b2, b3⟩ := h2
  refine ⟨fun j => if j < b then d1 j else d2 j, ?_, ?_, fun j hj hj' => ?_⟩
  · dsimp only
    by_cases q : a < b
    · rw [if_pos q]
      exact a1
    · rw [if_neg q, show a = b from by omega, b1, ← a2, ← a1, show a = b from by omega]
  · dsimp only
    rw [if_neg (by omega)]
    exact b2
  · dsimp only
    by_cases q : j < b
    · rw [if_pos q]
      by_cases w : j + 1 < b
      · rw [if_pos w]
        exact a3 j hj q
      · rw [if_neg w]
        have := a3 j hj q
        rw [show j + 1 = b from by omega] at this ⊢
        rw [b1, ← a2]
        exact this
    · rw [if_neg q, if_neg (by omega)]
      exact b3 j (by omega) hj'
theorem RSeg.cong {m m' : Mem} {a b D E : Nat} (h : RSeg m a b D E) (e : ∀ c j, (c = 119 ∨ c = 120) → a ≤ j → j < b → m'.1 c (64 + j) = m.1 c (64 + j)) : RSeg m' a b D E := by
  obtain ⟨d, a1, a2, a3⟩ := h
  exact ⟨d, a1, a2, fun j hj hj' => by rw [e 119 j (by omega) hj hj', e 120 j (by omega) hj hj']; exact a3 j hj hj'⟩
theorem RSeg.one {m : Mem} {a D E : Nat} (h : RK (m.1 119 (64 + a)) (m.1 120 (64 + a)) D E) : RSeg m a (a + 1) D E := ⟨fun j => if j = a then D else E, by simp, by simp, fun j h1 h2 => by
  have e : j = a := by omega
  dsimp only
  rw [e, if_pos rfl, if_neg (by omega)]
  exact h⟩
def LQ (l f0 : Nat) (V Q : List Nat) (k c s : Nat) (mC mR : Mem) : Prop := (mR.1 99 30 = 0) ∧ (mC.1 2 3 = zN (V ++ Q).length) ∧ (Pd mC (V ++ Q)) ∧ (k ≤ 8 ∧ mC.1 2 4 = zN k ∧ mR.1 99 34 = zN k) ∧ (c ≤ 64 ∧ mC.1 l 6 = zN c ∧ mR.1 99 35 = zN c) ∧ (mC.1 l 7 = zN s ∧ mR.1 101 15 = zN (s + V.length)) ∧ (c = s + nS (V ++ Q) ∧ nO (V ++ Q) = k) ∧ (∀ v, v ∈ V → isOp v = true) ∧ (∀ j, j < V.length → mR.1 119 (64 + (s + j)) = 2 ∧ mR.1 120 (64 + (s + j)) = zN (opc (V.getD j 0))) ∧ (∀ j, f0 ≤ j → j < s → CM (mC.1 (l + 1) j) (mC.1 (l + 2) j) (mR.1 119 (64 + j)) (mR.1 120 (64 + j))) ∧ (18 ≤ l ∧ l ≤ 36 ∧ f0 ≤ s) ∧ (mC.1 2 7 = 0 ∧ mC.1 2 8 = -1 ∧ mR.1 99 31 = -1)
theorem LQ.fl {l f0 : Nat} {V Q : List Nat} {k c s : Nat} {mC mR : Mem} (h : LQ l f0 V Q k c s mC mR) : mR.1 99 30 = 0 := h.1
theorem LQ.wt {l f0 : Nat} {V Q : List Nat} {k c s : Nat} {mC mR : Mem} (h : LQ l f0 V Q k c s mC mR) : mC.1 2 3 = zN (V ++ Q).length := h.2.1
theorem LQ.pd {l f0 : Nat} {V Q : List Nat} {k c s : Nat} {mC mR : Mem} (h : LQ l f0 V Q k c s mC mR) : Pd mC (V ++ Q) := h.2.2.1
theorem LQ.op {l f0 : Nat} {V Q : List Nat} {k c s : Nat} {mC mR : Mem} (h : LQ l f0 V Q k c s mC mR) : k ≤ 8 ∧ mC.1 2 4 = zN k ∧ mR.1 99 34 = zN k := h.2.2.2.1
theorem LQ.kn {l f0 : Nat} {V Q : List Nat} {k c s : Nat} {mC mR : Mem} (h : LQ l f0 V Q k c s mC mR) : c ≤ 64 ∧ mC.1 l 6 = zN c ∧ mR.1 99 35 = zN c := h.2.2.2.2.1
theorem LQ.sz {l f0 : Nat} {V Q : List Nat} {k c s : Nat} {mC mR : Mem} (h : LQ l f0 V Q k c s mC mR) : mC.1 l 7 = zN s ∧ mR.1 101 15 = zN (s + V.length) := h.2.2.2.2.2.1
theorem LQ.ct {l f0 : Nat} {V Q : List Nat} {k c s : Nat} {mC mR : Mem} (h : LQ l f0 V Q k c s mC mR) : c = s + nS (V ++ Q) ∧ nO (V ++ Q) = k := h.2.2.2.2.2.2.1
theorem LQ.vs {l f0 : Nat} {V Q : List Nat} {k c s : Nat} {mC mR : Mem} (h : LQ l f0 V Q k c s mC mR) : ∀ v, v ∈ V → isOp v = true := h.2.2.2.2.2.2.2.1
theorem LQ.cv {l f0 : Nat} {V Q : List Nat} {k c s : Nat} {mC mR : Mem} (h : LQ l f0 V Q k c s mC mR) : ∀ j, j < V.length → mR.1 119 (64 + (s + j)) = 2 ∧ mR.1 120 (64 + (s + j)) = zN (opc (V.getD j 0)) := h.2.2.2.2.2.2.2.2.1
theorem LQ.cm {l f0 : Nat} {V Q : List Nat} {k c s : Nat} {mC mR : Mem} (h : LQ l f0 V Q k c s mC mR) : ∀ j, f0 ≤ j → j < s → CM (mC.1 (l + 1) j) (mC.1 (l + 2) j) (mR.1 119 (64 + j)) (mR.1 120 (64 + j)) := h.2.2.2.2.2.2.2.2.2.1
theorem LQ.hl {l f0 : Nat} {V Q : List Nat} {k c s : Nat} {mC mR : Mem} (h : LQ l f0 V Q k c s mC mR) : 18 ≤ l ∧ l ≤ 36 ∧ f0 ≤ s := h.2.2.2.2.2.2.2.2.2.2.1
theorem LQ.fz {l f0 : Nat} {V Q : List Nat} {k c s : Nat} {mC mR : Mem} (h : LQ l f0 V Q k c s mC mR) : mC.1 2 7 = 0 ∧ mC.1 2 8 = -1 ∧ mR.1 99 31 = -1 := h.2.2.2.2.2.2.2.2.2.2.2
def LT (n : Nat) (bt : Nat → Nat) (i p pl : Nat) (mC mR : Mem) : Prop := (TkB n bt mC mR) ∧ (Tkn p pl mC mR) ∧ (p ≤ n) ∧ ((mC.1 5 4 = -1 ∧ i + 2 ≤ p + 1) ∨ (mC.1 5 4 ≠ -1 ∧ i + 2 ≤ p))
theorem LT.tb {n : Nat} {bt : Nat → Nat} {i p pl : Nat} {mC mR : Mem} (h : LT n bt i p pl mC mR) : TkB n bt mC mR := h.1
theorem LT.tk {n : Nat} {bt : Nat → Nat} {i p pl : Nat} {mC mR : Mem} (h : LT n bt i p pl mC mR) : Tkn p pl mC mR := h.2.1
theorem LT.pn {n : Nat} {bt : Nat → Nat} {i p pl : Nat} {mC mR : Mem} (h : LT n bt i p pl mC mR) : p ≤ n := h.2.2.1
theorem LT.ip {n : Nat} {bt : Nat → Nat} {i p pl : Nat} {mC mR : Mem} (h : LT n bt i p pl mC mR) : (mC.1 5 4 = -1 ∧ i + 2 ≤ p + 1) ∨ (mC.1 5 4 ≠ -1 ∧ i + 2 ≤ p) := h.2.2.2
theorem LQ.len {l f0 : Nat} {V Q : List Nat} {k c s : Nat} {mC mR : Mem} (h : LQ l f0 V Q k c s mC mR) : (V ++ Q).length = (c - s) + k ∧ s + V.length ≤ c ∧ s ≤ c := by
  have a := nSO (V ++ Q)
  have b := h.ct
  have d := (nS_ops V h.vs).1
  have e := nS_app V Q
  omega
theorem LQ.cong {l f0 : Nat} {V Q : List Nat} {k c s : Nat} {mC mR mC' mR' : Mem} (h : LQ l f0 V Q k c s mC mR) (hC : ∀ c j, (c = 2 ∧ (j = 3 ∨ j = 4 ∨ j = 7 ∨ j = 8)) ∨ c = 3 ∨ (c = l ∧ (j = 6 ∨ j = 7)) ∨ c = l + 1 ∨ c = l + 2 → mC'.1 c j = mC.1 c j) (hR : ∀ c j, (c = 99 ∧ (j = 30 ∨ j = 31 ∨ j = 34 ∨ j = 35)) ∨ (c = 101 ∧ j = 15) ∨ c = 119 ∨ c = 120 → mR'.1 c j = mR.1 c j) : LQ l f0 V Q k c s mC' mR' := by
  refine ⟨?_, ?_, h.pd.cong _ (fun j _ => hC 3 j (by omega)), ⟨h.op.1, ?_, ?_⟩, ⟨h.kn.1, ?_, ?_⟩, ⟨?_, ?_⟩, h.ct, h.vs, fun j hj => ?_, fun j a b => ?_, h.hl, ?_⟩
  · rw [hR _ _ (by omega)]
    exact h.fl
  · rw [hC _ _ (by omega)]
    exact h.wt
  · rw [hC _ _ (by omega)]
    exact h.op.2.1
  · rw [hR _ _ (by omega)]
    exact h.op.2.2
  · rw [hC _ _ (by omega)]
    exact h.kn.2.1
  · rw [hR _ _ (by omega)]
    exact h.kn.2.2
  · rw [hC _ _ (by omega)]
    exact h.sz.1
  · rw [hR _ _ (by omega)]
    exact h.sz.2
  · rw [hR _ _ (by omega), hR _ _ (by omega)]
    exact h.cv j hj
  · rw [hC _ _ (by omega), hC _ _ (by omega), hR _ _ (by omega), hR _ _ (by omega)]
    exact h.cm j a b
  · rw [hC _ _ (by omega), hC _ _ (by omega), hR _ _ (by omega)]
    exact h.fz
/-- what a law's reading may touch -/
def LFC (l s0 k0 : Nat) (m m' : Mem) : Prop := (∀ c j, ¬ (c = 2 ∧ 3 ≤ j ∧ j ≤ 8) → c ≠ 3 → ¬ (c = 4 ∧ k0 ≤ j) → ¬ (c = 5 ∧ 3 ≤ j ∧ j ≤ 6) → ¬ (c = l ∧ (j = 6 ∨ j = 7)) → ¬ ((c = l + 1 ∨ c = l + 2) ∧ s0 ≤ j) → m'.1 c j = m.1 c j) ∧ m'.2 = m.2
def LFR (s0 : Nat) (m m' : Mem) : Prop := ∀ c j, ¬ (c = 99 ∧ ((26 ≤ j ∧ j ≤ 31) ∨ j = 34 ∨ j = 35)) → ¬ (c = 101 ∧ j = 15) → ¬ ((c = 119 ∨ c = 120) ∧ 64 + s0 ≤ j) → m'.1 c j = m.1 c j
theorem LFC.rf {l s0 k0 : Nat} {m : Mem} : LFC l s0 k0 m m := ⟨fun _ _ _ _ _ _ _ _ => rfl, rfl⟩
theorem LFR.rf {s0 : Nat} {m : Mem} : LFR s0 m m := fun _ _ _ _ _ => rfl
theorem LFC.tr {l s0 k0 s1 k1 : Nat} {m m' m'' : Mem} (h : LFC l s0 k0 m m') (h' : LFC l s1 k1 m' m'') (hs : s0 ≤ s1) (hk : k0 ≤ k1) : LFC l s0 k0 m m'' := ⟨fun c j a b d e f g => (h'.1 c j a b (by omega) e f (by omega)).trans (h.1 c j a b d e f g), h'.2.trans h.2⟩
theorem LFR.tr {s0 s1 : Nat} {m m' m'' : Mem} (h : LFR s0 m m') (h' : LFR s1 m' m'') (hs : s0 ≤ s1) : LFR s0 m m'' := fun c j a b d => (h' c j a b (by omega)).trans (h c j a b d)
def FlR (mC mR : Mem) : Prop := mC.1 2 7 = mR.1 99 30 ∧ mC.1 2 8 = mR.1 99 31 ∧ ¬ mR.1 99 30 = 0
theorem fail_ok {v : Nat} {m : Mem} : fX8_fail (zN v) m = some (0, mI (mI m 2 7 (zN v)) 2 8 (m.1 5 5)) := by
  unfold fX8_fail
  rw [mI_n (by omega)]
theorem wrong_ok {v : Nat} {m : Mem} (f : m.1 99 30 = 0) : fX12_wrong (zN v) m = some (mI (mI m 99 30 (zN v)) 99 31 (m.1 99 27)) := by
  unfold fX12_wrong
  rw [if_pos f, mI_n (by omega)]
theorem FlR.mk {p pl v : Nat} {mC mR : Mem} (h : Tkn p pl mC mR) (hv : 1 ≤ v ∧ v ≤ 5) : FlR (mI (mI mC 2 7 (zN v)) 2 8 (mC.1 5 5)) (mI (mI mR 99 30 (zN v)) 99 31 (mR.1 99 27)) := by
  refine ⟨?_, ?_, ?_⟩
  · rw [mI_n (by omega), mI_s ⟨rfl, rfl⟩, mI_n (by omega), mI_s ⟨rfl, rfl⟩]
  · rw [mI_s ⟨rfl, rfl⟩, mI_s ⟨rfl, rfl⟩, h.lC, h.lR]
  · rw [mI_n (by omega), mI_s ⟨rfl, rfl⟩]
    exact zne (c := 0) (by omega) (by omega) (by omega)
theorem LFC.fail {l s0 k0 : Nat} {m : Mem} {x y : Int32} : LFC l s0 k0 m (mI (mI m 2 7 x) 2 8 y) := ⟨fun c j a _ _ _ _ _ => by rw [mI_n (by omega), mI_n (by omega)], rfl⟩
theorem LFR.fail {s0 : Nat} {m : Mem} {x y : Int32} : LFR s0 m (mI (mI m 99 30 x) 99 31 y) := fun c j a _ _ => by rw [mI_n (by omega), mI_n (by omega)]
/-- the next token, with what waits kept -/
theorem LQ.adv {N n l f0 : Nat} {bt : Nat → Nat} {V Q : List Nat} {k c s i p : Nat} {mC mR : Mem} (hN : 1000 ≤ N) (h : LQ l f0 V Q k c s mC mR) (tb : TkB n bt mC mR) (e1 : mC.1 5 3 = zN p) (e2 : mR.1 99 26 = zN p) (hp : p ≤ n) (hi : i + 2 ≤ p) : ∃ mC' mR' p' pl, fX10_advance N mC = some mC' ∧ fX12_goOn N mR = some mR' ∧ fX12_token N mR = some mR' ∧ LQ l f0 V Q k c s mC' mR' ∧ LT n bt (i + 1) p' pl mC' mR' ∧ p ≤ p' ∧ (mC'.1 5 4 = -1 ∨ p < p') ∧ (∀ c j, ¬ (c = 5 ∧ 3 ≤ j ∧ j ≤ 6) → mC'.1 c j = mC.1 c j) ∧ mC'.2 = mC.2 ∧ (∀ c j, ¬ (c = 99 ∧ 26 ≤ j ∧ j ≤ 29) → mR'.1 c j = mR.1 c j) := by
  obtain ⟨MC, MR, p', pl, a1, a2, a3, a4, a5, a6, a7, a8, a9⟩ := tok_rel hN tb e1 e2 hp
  have hl := h.hl
  refine ⟨MC, MR, p', pl, a1, ?_, a2, h.cong (fun c j w => a7 c j (by omega)) (fun c j w => a9 c j (by omega)), ⟨tb.cong (fun c j w _ _ => a7 c j (by omega)) (fun c j w _ _ => a9 c j (by omega)), a3, a5, ?_⟩, by have := a3.lp; omega, a6, a7, a8, a9⟩
  · unfold fX12_goOn
    rw [if_pos h.fl, a2, b_some]
  · have := a3.lp
    by_cases q : MC.1 5 4 = -1
    · exact Or.inl ⟨q, by omega⟩
    · refine Or.inr ⟨q, ?_⟩
      rcases a6 with w | w
      · exact absurd w q
      · omega
theorem knot_ok {l f0 : Nat} {V Q : List Nat} {k c s : Nat} {mC mR : Mem} (h : LQ l f0 V Q k c s mC mR) : (c = 64 → fX12_knot mR = some (mI (mI mR 99 30 (zN 2)) 99 31 (mR.1 99 27)) ∧ fX8_countKnot l mC = some (0, mI (mI mC 2 7 (zN 2)) 2 8 (mC.1 5 5))) ∧ (c < 64 → fX12_knot mR = some (mI mR 99 35 (zN (c + 1))) ∧ fX8_countKnot l mC = some (1, mI mC l 6 (zN (c + 1)))) := by
  obtain ⟨k1, k2, k3⟩ := h.kn
  unfold fX12_knot fX8_countKnot
  rw [if_pos h.fl, k2, k3]
  refine ⟨fun z => ?_, fun z => ?_⟩
  · rw [if_pos (show zN c = (64 : Int32) from by rw [z]; rfl), show fX12_wrong (2 : Int32) mR = _ from wrong_ok (v := 2) h.fl, b_some, if_neg (show ¬ (zN c < (64 : Int32)) from zlt (c := 64) (by omega) (by omega) (by omega)), show fX8_fail (2 : Int32) mC = _ from fail_ok (v := 2), b_some, if_pos (Or.inl rfl)]
    exact ⟨rfl, rfl⟩
  · rw [if_neg (show ¬ (zN c = (64 : Int32)) from zne (c := 64) (by omega) (by omega) (by omega)), if_pos (show zN c < (64 : Int32) from by rw [show (64 : Int32) = zN 64 from rfl, zN_lt (by omega) (by omega)]; exact z), zN_s]
    exact ⟨rfl, rfl⟩
theorem goOn_f {N : Nat} {m : Mem} (f : ¬ m.1 99 30 = 0) : fX12_goOn N m = some m := by
  unfold fX12_goOn
  rw [if_neg f]
theorem puts_f {x y : Int32} {m : Mem} (f : ¬ m.1 99 30 = 0) : fX12_puts x y m = some m := by
  unfold fX12_puts
  rw [if_neg f]
theorem fr7 (m : Mem) : fX12_fresher (7 : Int32) m = some (m.1 101 15) := rfl
theorem rd7 (x : Int32) (m : Mem) : fX12_reads (7 : Int32) x m = some (mI m 101 15 x) := rfl
theorem puts_ok {t : Nat} {x y : Int32} {m : Mem} (f : m.1 99 30 = 0) (e : m.1 101 15 = zN t) (ht : t < 64) : fX12_puts x y m = some (mI (mI (mI m 119 (64 + t) x) 120 (64 + t) y) 101 15 (zN (t + 1))) := by
  unfold fX12_puts
  have z64 : ∀ a, (64 : Int32) + zN a = zN (64 + a) := fun a => zN_add 64 a
  rw [if_pos f, fr7, b_some, e, z64, g_in (by omega) (by omega), zN_cl (by omega), fr7, b_some, mI_n (by omega), e, z64, g_in (by omega) (by omega), zN_cl (by omega), fr7, b_some, mI_n (by omega), mI_n (by omega), e, rd7, b_some, zN_s]
theorem await_ok {x t : Nat} {m : Mem} (e : m.1 2 3 = zN t) (ht : t < 72) : fX8_await (zN x) m = some (1, mI (mI m 3 t (zN x)) 2 3 (zN (t + 1))) := by
  unfold fX8_await
  rw [e, if_neg (znn (by omega)), if_pos (show zN t < Int32.ofNat 72 from by rw [show Int32.ofNat 72 = zN 72 from rfl, zN_lt (by omega) (by omega)]; exact ht), g_in (by omega) (by omega), zN_cl (by omega), mI_n (by omega), e, zN_s]
/-- the loop of a law, where an operand is due -/
theorem rl_due {N nn l i : Nat} {x2 x3 : Int32} {mC : Mem} (hi : i < 700) (d : mC.1 2 5 = 1) : fX8_readLaw_89 N (nn + 1) l x2 x3 (zN i) mC = (fX8_takeOperand l mC).bind (fun q24 => if q24.1 = 0 then (some ((0 : Int32), q24.2)) else (fX8_readLaw_165 N (fun x1 x2 x3 x4 m => fX8_readLaw_89 N nn x1 x2 x3 x4 m) l x2 x3 (zN i) q24.2)) := by
  rw [fX8_readLaw_89, if_neg (show ¬ ((700 : Int32) ≤ zN i) from zle (a := 700) (by omega) (by omega) (by omega)), d, if_neg z10]
  unfold fX8_readLaw_137
  rw [d, if_neg z10]
theorem rl_sgn {N nn l i k : Nat} {x2 x3 : Int32} {mC : Mem} (hi : i < 700) (d : mC.1 2 5 = 0) (e : mC.1 2 4 = zN k) (hk : k ≤ 8) (q : ¬ (k = 0 ∧ mC.1 5 4 = zN 22)) : fX8_readLaw_89 N (nn + 1) l x2 x3 (zN i) mC = (fX8_takeSign N l mC).bind (fun q19 => if q19.1 = 0 then (some ((0 : Int32), q19.2)) else (fX8_readLaw_165 N (fun x1 x2 x3 x4 m => fX8_readLaw_89 N nn x1 x2 x3 x4 m) l x2 x3 (zN i) q19.2)) := by
  rw [fX8_readLaw_89, if_neg (show ¬ ((700 : Int32) ≤ zN i) from zle (a := 700) (by omega) (by omega) (by omega)), if_pos d, e]
  have R : fX8_readLaw_137 N (fun x1 x2 x3 x4 m => fX8_readLaw_89 N nn x1 x2 x3 x4 m) l x2 x3 (zN i) mC = (fX8_takeSign N l mC).bind (fun q19 => if q19.1 = 0 then (some ((0 : Int32), q19.2)) else (fX8_readLaw_165 N (fun x1 x2 x3 x4 m => fX8_readLaw_89 N nn x1 x2 x3 x4 m) l x2 x3 (zN i) q19.2)) := by
    unfold fX8_readLaw_137
    rw [if_pos d]
  rw [R]
  by_cases w : k = 0
  · rw [if_pos (show zN k = 0 from by rw [w]; rfl), if_neg (show ¬ (mC.1 5 4 = (22 : Int32)) from fun z => q ⟨w, z⟩)]
  · rw [if_neg (show ¬ (zN k = 0) from zne (c := 0) (by omega) (by omega) w)]
