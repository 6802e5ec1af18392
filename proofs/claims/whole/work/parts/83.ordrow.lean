/-! a row more; what holds between lines -/
def RowOk (Z : Nat → Nat) (i : Nat) (vs : Nat → Int32) : Prop := (i = 0 → Bd (vs 1) 0 99 ∧ Bd (vs 2) 0 9) ∧ (i = 1 → Bd (vs 1) 1 99 ∧ Bd (vs 2) 0 99) ∧ (i = 2 → ∃ w t, w < Z 0 ∧ t < Z 1 ∧ vs 0 = zN w ∧ vs 1 = zN t) ∧ (i = 3 → ∃ t, t < Z 1 ∧ vs 0 = zN t ∧ Bd (vs 1) 1 9) ∧ (i = 4 → ∃ f t, f < Z 1 ∧ t < Z 1 ∧ f ≠ t ∧ vs 0 = zN f ∧ vs 1 = zN t ∧ Bd (vs 2) 1 9)
def upZ (Z : Nat → Nat) (i : Nat) : Nat → Nat := fun q => if q = i then Z q + 1 else Z q
theorem upZ_le (Z : Nat → Nat) (i q : Nat) : Z q ≤ upZ Z i q := by
  unfold upZ
  by_cases e : q = i
  · rw [if_pos e]
    omega
  · rw [if_neg e]
    omega
theorem KCode.cong4 {o : Nat} {mC mR mC' mR' : Mem} {f t : Nat} (ht : t ≤ 64) (hC : ∀ k, mC'.1 (o + 12) k = mC.1 (o + 12) k ∧ mC'.1 (o + 13) k = mC.1 (o + 13) k) (hR : ∀ k, k < 64 → mR'.1 119 k = mR.1 119 k ∧ mR'.1 120 k = mR.1 120 k) (h : KCode o mC mR f t) : KCode o mC' mR' f t := by
  obtain ⟨d, h1, h2, h3⟩ := h
  refine ⟨d, h1, h2, fun i a b => ?_⟩
  rw [(hC i).1, (hC i).2, (hR i (by omega)).1, (hR i (by omega)).2]
  exact h3 i a b
theorem OrdR.row {Z : Nat → Nat} {o i n : Nat} {bt : Nat → Nat} {A B : Mem} {vs : Nat → Int32} {p pl : Nat} {mC mR : Mem} (X : RX Z o i A B) (h : RS Z o i n bt A B vs 3 p pl mC mR) (hr : RowOk Z i vs) : OrdR (upZ Z i) o (mI mC (o + 1 + 2 * i) 2 (zN (Z i + 1))) (hfM (mI mR 101 (8 + i) (zN (Z i + 1)))) := by
  have o7 := X.o7
  have hi := X.hi
  have hz := X.hz
  have zm := X.od.zm
  have OC : ∀ cc j, o ≤ cc → ¬ (cc = o + 2 + 2 * i ∧ 3 * Z i ≤ j) → ¬ (cc = o + 1 + 2 * i ∧ j = 2) → (mI mC (o + 1 + 2 * i) 2 (zN (Z i + 1))).1 cc j = A.1 cc j := fun cc j w1 w2 w3 => by rw [mI_n (by omega), h.fC cc j (by omega) w2]
  have OR1 : ∀ cc k, 101 ≤ cc → cc ≤ 120 → ¬ (102 + 3 * i ≤ cc ∧ cc ≤ 104 + 3 * i ∧ k = Z i) → ¬ (cc = 101 ∧ k = i) → (hfM (mI mR 101 (8 + i) (zN (Z i + 1)))).1 cc k = (hfM B).1 cc k := by
    intro cc k w1 w2 w3 w4
    rw [hfM_at w1 w2, hfM_at w1 w2, mI_n (by
      by_cases e : cc = 101
      · refine Or.inr ?_
        rw [e, show hf 101 = 8 from rfl]
        omega
      · exact Or.inl e), h.fR _ _ (by omega) (fun z => by
      obtain ⟨z1, z2, z3⟩ := z
      have e := hf_row i hi (cc - (102 + 3 * i)) (by omega)
      rw [show 102 + 3 * i + (cc - (102 + 3 * i)) = cc from by omega] at e
      omega)]
  have NR : ∀ c, c < 3 → (hfM (mI mR 101 (8 + i) (zN (Z i + 1)))).1 (102 + 3 * i + c) (Z i) = vs c := by
    intro c hc
    rw [hfM_at (by omega) (by omega), hf_row i hi c hc, mI_n (by omega)]
    exact (h.va c hc).2
  have U : ∀ q, q < 5 → upZ Z i q ≤ mostT q := by
    intro q hq
    unfold upZ
    by_cases e : q = i
    · rw [if_pos e, e]
      exact hz
    · rw [if_neg e]
      exact zm q hq
  have K : ∀ q k, q < 5 → k < upZ Z i q → (k < Z q ∧ ∀ c, c < 3 → (hfM (mI mR 101 (8 + i) (zN (Z i + 1)))).1 (102 + 3 * q + c) k = (hfM B).1 (102 + 3 * q + c) k) ∨ (q = i ∧ k = Z q ∧ ∀ c, c < 3 → (hfM (mI mR 101 (8 + i) (zN (Z i + 1)))).1 (102 + 3 * q + c) k = vs c) := by
    intro q k hq hk
    unfold upZ at hk
    by_cases e : q = i
    · rw [if_pos e] at hk
      by_cases w : k = Z q
      · exact Or.inr ⟨e, w, fun c hc => by rw [w, e]; exact NR c hc⟩
      · exact Or.inl ⟨by omega, fun c hc => OR1 _ _ (by omega) (by omega) (by rw [← e]; omega) (by omega)⟩
    · rw [if_neg e] at hk
      exact Or.inl ⟨hk, fun c hc => OR1 _ _ (by omega) (by omega) (by omega) (by omega)⟩
  have LE := upZ_le Z i
  refine ⟨X.ho, ⟨U 0 (by omega), U 1 (by omega), U 2 (by omega), U 3 (by omega), U 4 (by omega)⟩, fun q hq => ?_, fun q hq => ?_, fun q k c hq hk hc => ?_, fun k hk => ?_, fun k hk => ?_, fun k hk => ?_, fun k hk => ?_, fun k hk => ?_, ?_, ?_, fun r hr => ?_, ?_⟩
  · unfold upZ
    by_cases e : q = i
    · rw [if_pos e, e, mI_s ⟨rfl, rfl⟩]
    · rw [if_neg e, OC _ _ (by omega) (by omega) (by omega)]
      exact X.od.sC q hq
  · unfold upZ
    by_cases e : q = i
    · rw [if_pos e, hfM_at (by omega) (by omega), e, show hf 101 = 8 from rfl, mI_s ⟨rfl, rfl⟩]
    · rw [if_neg e, OR1 _ _ (by omega) (by omega) (by omega) (by omega)]
      exact X.od.sR q hq
  · rcases K q k hq hk with ⟨a, b⟩ | ⟨a, b, d⟩
    · rw [b c hc, OC _ _ (by omega) (fun z => by
        have e : q = i := by omega
        rw [← e] at z
        omega) (by omega)]
      exact X.od.rw q k c hq a hc
    · rw [d c hc, b, a, mI_n (by omega)]
      exact (h.va c hc).1
  · rcases K 0 k (by omega) hk with ⟨a, b⟩ | ⟨a, b, d⟩
    · rw [show _ = _ from b 1 (by omega), show _ = _ from b 2 (by omega)]
      exact X.od.kb k a
    · rw [show _ = _ from d 1 (by omega), show _ = _ from d 2 (by omega)]
      exact hr.1 a.symm
  · rcases K 1 k (by omega) hk with ⟨a, b⟩ | ⟨a, b, d⟩
    · rw [show _ = _ from b 1 (by omega), show _ = _ from b 2 (by omega)]
      exact X.od.tl k a
    · rw [show _ = _ from d 1 (by omega), show _ = _ from d 2 (by omega)]
      exact hr.2.1 a.symm
  · rcases K 2 k (by omega) hk with ⟨a, b⟩ | ⟨a, b, d⟩
    · rw [show _ = _ from b 0 (by omega), show _ = _ from b 1 (by omega)]
      obtain ⟨w, t, w1, w2, w3⟩ := X.od.st k a
      exact ⟨w, t, Nat.lt_of_lt_of_le w1 (LE 0), Nat.lt_of_lt_of_le w2 (LE 1), w3⟩
    · rw [show _ = _ from d 0 (by omega), show _ = _ from d 1 (by omega)]
      obtain ⟨w, t, w1, w2, w3⟩ := hr.2.2.1 a.symm
      exact ⟨w, t, Nat.lt_of_lt_of_le w1 (LE 0), Nat.lt_of_lt_of_le w2 (LE 1), w3⟩
  · rcases K 3 k (by omega) hk with ⟨a, b⟩ | ⟨a, b, d⟩
    · rw [show _ = _ from b 0 (by omega), show _ = _ from b 1 (by omega)]
      obtain ⟨t, w2, w3⟩ := X.od.ca k a
      exact ⟨t, Nat.lt_of_lt_of_le w2 (LE 1), w3⟩
    · rw [show _ = _ from d 0 (by omega), show _ = _ from d 1 (by omega)]
      obtain ⟨t, w2, w3⟩ := hr.2.2.2.1 a.symm
      exact ⟨t, Nat.lt_of_lt_of_le w2 (LE 1), w3⟩
  · rcases K 4 k (by omega) hk with ⟨a, b⟩ | ⟨a, b, d⟩
    · rw [show _ = _ from b 0 (by omega), show _ = _ from b 1 (by omega), show _ = _ from b 2 (by omega)]
      obtain ⟨f, t, w1, w2, w3⟩ := X.od.pi k a
      exact ⟨f, t, Nat.lt_of_lt_of_le w1 (LE 1), Nat.lt_of_lt_of_le w2 (LE 1), w3⟩
    · rw [show _ = _ from d 0 (by omega), show _ = _ from d 1 (by omega), show _ = _ from d 2 (by omega)]
      obtain ⟨f, t, w1, w2, w3⟩ := hr.2.2.2.2 a.symm
      exact ⟨f, t, Nat.lt_of_lt_of_le w1 (LE 1), Nat.lt_of_lt_of_le w2 (LE 1), w3⟩
  · rw [OC _ _ (by omega) (by omega) (by omega), OR1 _ _ (by omega) (by omega) (by omega) (by omega)]
    exact X.od.fl
  · rw [OC _ _ (by omega) (by omega) (by omega), OR1 _ _ (by omega) (by omega) (by omega) (by omega)]
    exact X.od.sd
  · rw [OC _ _ (by omega) (by omega) (by omega), OC _ _ (by omega) (by omega) (by omega), OR1 _ _ (by omega) (by omega) (by omega) (by omega), OR1 _ _ (by omega) (by omega) (by omega) (by omega)]
    obtain ⟨f, t, a1, a2, a3, a4, a5, a6, a7⟩ := X.od.lw r hr
    exact ⟨f, t, a1, a2, a3, a4, a5, a6, fun w => (a7 w).cong4 a2 (fun k => ⟨OC _ _ (by omega) (by omega) (by omega), OC _ _ (by omega) (by omega) (by omega)⟩) (fun k _ => ⟨OR1 _ _ (by omega) (by omega) (by omega) (by omega), OR1 _ _ (by omega) (by omega) (by omega) (by omega)⟩)⟩
  · rw [OC _ _ (by omega) (by omega) (by omega), OR1 _ _ (by omega) (by omega) (by omega) (by omega)]
    exact X.od.kn
def LI (Z : Nat → Nat) (o n : Nat) (bt : Nat → Nat) (p pl s : Nat) (mC mR : Mem) : Prop := (OrdR Z o mC (hfM mR)) ∧ (TkB n bt mC mR) ∧ (Tkn p pl mC mR) ∧ (p ≤ n) ∧ (mR.1 99 30 = 0) ∧ (mC.1 2 7 = 0 ∧ mC.1 2 8 = -1 ∧ mR.1 99 31 = -1) ∧ ((mC.1 o 7 = 0 ∧ tbt (mR.1 99 23) 5 = false) ∨ (mC.1 o 7 = 1 ∧ tbt (mR.1 99 23) 5 = true)) ∧ ((mC.1 o 9 = 0 ∧ tbt (mR.1 99 23) 6 = false) ∨ (mC.1 o 9 = 1 ∧ tbt (mR.1 99 23) 6 = true)) ∧ (∀ r, r < 3 → ∃ f t, mC.1 (o + 14) r = zN f ∧ mC.1 (o + 15) r = zN t ∧ f ≤ t ∧ t ≤ s ∧ (f < t ↔ tbt (mR.1 99 23) (16 + r) = true)) ∧ (mR.1 99 34 = 0) ∧ (s ≤ 64 ∧ mC.1 (o + 11) 6 = zN s ∧ mC.1 (o + 11) 7 = zN s ∧ mR.1 99 35 = zN s ∧ mR.1 101 15 = zN s) ∧ (∀ i, i < 5 → mC.1 (o + 1 + 2 * i) 0 = zN (mostT i))
theorem LI.od {Z : Nat → Nat} {o n : Nat} {bt : Nat → Nat} {p pl s : Nat} {mC mR : Mem} (h : LI Z o n bt p pl s mC mR) : OrdR Z o mC (hfM mR) := h.1
theorem LI.tb {Z : Nat → Nat} {o n : Nat} {bt : Nat → Nat} {p pl s : Nat} {mC mR : Mem} (h : LI Z o n bt p pl s mC mR) : TkB n bt mC mR := h.2.1
theorem LI.tk {Z : Nat → Nat} {o n : Nat} {bt : Nat → Nat} {p pl s : Nat} {mC mR : Mem} (h : LI Z o n bt p pl s mC mR) : Tkn p pl mC mR := h.2.2.1
theorem LI.pn {Z : Nat → Nat} {o n : Nat} {bt : Nat → Nat} {p pl s : Nat} {mC mR : Mem} (h : LI Z o n bt p pl s mC mR) : p ≤ n := h.2.2.2.1
theorem LI.fl {Z : Nat → Nat} {o n : Nat} {bt : Nat → Nat} {p pl s : Nat} {mC mR : Mem} (h : LI Z o n bt p pl s mC mR) : mR.1 99 30 = 0 := h.2.2.2.2.1
theorem LI.fz {Z : Nat → Nat} {o n : Nat} {bt : Nat → Nat} {p pl s : Nat} {mC mR : Mem} (h : LI Z o n bt p pl s mC mR) : mC.1 2 7 = 0 ∧ mC.1 2 8 = -1 ∧ mR.1 99 31 = -1 := h.2.2.2.2.2.1
theorem LI.t5 {Z : Nat → Nat} {o n : Nat} {bt : Nat → Nat} {p pl s : Nat} {mC mR : Mem} (h : LI Z o n bt p pl s mC mR) : (mC.1 o 7 = 0 ∧ tbt (mR.1 99 23) 5 = false) ∨ (mC.1 o 7 = 1 ∧ tbt (mR.1 99 23) 5 = true) := h.2.2.2.2.2.2.1
theorem LI.t6 {Z : Nat → Nat} {o n : Nat} {bt : Nat → Nat} {p pl s : Nat} {mC mR : Mem} (h : LI Z o n bt p pl s mC mR) : (mC.1 o 9 = 0 ∧ tbt (mR.1 99 23) 6 = false) ∨ (mC.1 o 9 = 1 ∧ tbt (mR.1 99 23) 6 = true) := h.2.2.2.2.2.2.2.1
theorem LI.tl {Z : Nat → Nat} {o n : Nat} {bt : Nat → Nat} {p pl s : Nat} {mC mR : Mem} (h : LI Z o n bt p pl s mC mR) : ∀ r, r < 3 → ∃ f t, mC.1 (o + 14) r = zN f ∧ mC.1 (o + 15) r = zN t ∧ f ≤ t ∧ t ≤ s ∧ (f < t ↔ tbt (mR.1 99 23) (16 + r) = true) := h.2.2.2.2.2.2.2.2.1
theorem LI.op {Z : Nat → Nat} {o n : Nat} {bt : Nat → Nat} {p pl s : Nat} {mC mR : Mem} (h : LI Z o n bt p pl s mC mR) : mR.1 99 34 = 0 := h.2.2.2.2.2.2.2.2.2.1
theorem LI.kn {Z : Nat → Nat} {o n : Nat} {bt : Nat → Nat} {p pl s : Nat} {mC mR : Mem} (h : LI Z o n bt p pl s mC mR) : s ≤ 64 ∧ mC.1 (o + 11) 6 = zN s ∧ mC.1 (o + 11) 7 = zN s ∧ mR.1 99 35 = zN s ∧ mR.1 101 15 = zN s := h.2.2.2.2.2.2.2.2.2.2.1
theorem LI.ms {Z : Nat → Nat} {o n : Nat} {bt : Nat → Nat} {p pl s : Nat} {mC mR : Mem} (h : LI Z o n bt p pl s mC mR) : ∀ i, i < 5 → mC.1 (o + 1 + 2 * i) 0 = zN (mostT i) := h.2.2.2.2.2.2.2.2.2.2.2
theorem LI.o7 {Z : Nat → Nat} {o n : Nat} {bt : Nat → Nat} {p pl s : Nat} {mC mR : Mem} (h : LI Z o n bt p pl s mC mR) : 7 ≤ o ∧ o ≤ 25 := by
  have := h.od.ho
  omega
/-- the end of a line -/
theorem semi_ok {N : Nat} {Z : Nat → Nat} {o n : Nat} {bt : Nat → Nat} {p pl s : Nat} {mC mR : Mem} (hN : 1000 ≤ N) (h : LI Z o n bt p pl s mC mR) : (∃ mC' mR', fX8_readLine_151 N 1 mC = some (0, mC') ∧ fX12_line_464 N mR = some mR' ∧ FlR mC' mR' ∧ TFC o mC mC' ∧ TFR mR mR') ∨ (∃ p' pl' mC' mR', fX8_readLine_151 N 1 mC = some (1, mC') ∧ fX12_line_464 N mR = some mR' ∧ LI Z o n bt p' pl' s mC' mR' ∧ mC'.1 o 10 = mC.1 o 10 ∧ mR'.1 99 24 = mR.1 99 24 + 1 ∧ p ≤ p' ∧ (mC'.1 5 4 = -1 ∨ p < p') ∧ TFC o mC mC' ∧ TFR mR mR') := by
  have o7 := h.o7
  unfold fX8_readLine_151 fX12_line_464
  rw [if_neg z10, if_pos h.fl, show fX12_isSign (59 : Int32) mR = _ from isSign_ok (x := 22) (y := 59) (by decide) h.tk.kk h.fl, b_some]
  by_cases q : mC.1 5 4 = zN 22
  · rw [if_pos (show mC.1 5 4 = (22 : Int32) from q), if_pos q, if_neg z10]
    obtain ⟨MC, MR, p', pl', a1, a2, a3, a4, a5, a6, a7, a8, a9⟩ := tok_rel hN h.tb h.tk.nC h.tk.nR h.pn
    rw [a1, b_some, a2, b_some]
    unfold fX12_line_493
    have fC : TFC o mC MC := TFC.of (fun c j w1 w2 => a7 c j (by omega)) a8 (by omega)
    have fR : TFR mR (mI MR 99 24 (MR.1 99 24 + (1 : Int32))) := fun c j w1 w2 => by rw [mI_n (by omega), a9 c j (by omega)]
    have e24 : MR.1 99 24 = mR.1 99 24 := a9 _ _ (by omega)
    refine Or.inr ⟨p', pl', MC, _, rfl, rfl, ⟨?_, ?_, a3.r (fun _ _ _ => rfl) (fun j _ _ => mI_n (by omega)), a5, ?_, ?_, ?_, ?_, fun r hr => ?_, ?_, ?_, fun i hi => ?_⟩, a7 _ _ (by omega), by rw [mI_s ⟨rfl, rfl⟩, e24], by have := a3.lp; omega, a6, fC, fR⟩
    · refine h.od.cong3 (fun c k w1 w2 => a7 c k (by omega)) (fun c k w1 w2 _ => ?_)
      rw [hfM_at w1 w2, hfM_at w1 w2, mI_n (by omega), a9 _ _ (by omega)]
    · exact h.tb.cong (fun c k w1 w2 w3 => a7 c k (by omega)) (fun c k w1 w2 w3 => by rw [mI_n (by omega), a9 _ _ (by omega)])
    · rw [mI_n (by omega), a9 _ _ (by omega)]
      exact h.fl
    · rw [a7 _ _ (by omega), a7 _ _ (by omega), mI_n (by omega), a9 _ _ (by omega)]
      exact h.fz
    · rw [a7 _ _ (by omega), mI_n (by omega), a9 _ _ (by omega)]
      exact h.t5
    · rw [a7 _ _ (by omega), mI_n (by omega), a9 _ _ (by omega)]
      exact h.t6
    · rw [a7 _ _ (by omega), a7 _ _ (by omega), mI_n (by omega), a9 _ _ (by omega)]
      exact h.tl r hr
    · rw [mI_n (by omega), a9 _ _ (by omega)]
      exact h.op
    · rw [a7 _ _ (by omega), a7 _ _ (by omega), mI_n (by omega), a9 _ _ (by omega), mI_n (by omega), a9 _ _ (by omega)]
      exact h.kn
    · rw [a7 _ _ (by omega)]
      exact h.ms i hi
  · have F := FlR.mk h.tk (v := 1) (by omega)
    rw [if_neg (show ¬ (mC.1 5 4 = (22 : Int32)) from q), if_neg q, if_pos rfl, show fX8_fail (1 : Int32) mC = _ from fail_ok (v := 1), b_some, if_pos (Or.inl rfl), show fX12_wrong (1 : Int32) mR = _ from wrong_ok (v := 1) h.fl, b_some]
    unfold fX12_line_493
    refine Or.inl ⟨_, _, rfl, rfl, F.q (mI_n (by omega)) (mI_n (by omega)), TFC.fail (by omega), TFR.fail.tr (TFR.up9 (by omega))⟩
theorem l464_f {N : Nat} {m : Mem} (f : ¬ m.1 99 30 = 0) : fX12_line_464 N m = some m := by
  unfold fX12_line_464
  rw [if_neg f]
theorem l71_f {N : Nat} {x : Int32} {m : Mem} (f : ¬ m.1 99 30 = 0) : fX12_line_71 N x m = some m := by
  unfold fX12_line_71
  rw [if_neg f]
theorem isFull_ok {i z : Nat} {m : Mem} (hi : i < 5) (e : m.1 101 (8 + i) = zN z) (hz : z ≤ mostT i) : fX12_isFull (zN i) m = some (if z = mostT i then 1 else 0) := by
  unfold fX12_isFull
  have fr : ∀ j, j < 8 → fX12_fresher (zN j) m = some (m.1 101 (8 + j)) := fun j hj => fr_ok hj m
  have C : ∀ a : Nat, a < 100 → z ≤ a → (if zN z = zN a then (some (1 : Int32)) else (some (0 : Int32))) = some (if z = a then 1 else 0) := by
    intro a ha hza
    by_cases q : z = a
    · rw [if_pos (by rw [q]), if_pos q]
    · rw [if_neg (zne (by omega) (by omega) q), if_neg q]
  have : i = 0 ∨ i = 1 ∨ i = 2 ∨ i = 3 ∨ i = 4 := by omega
  rcases this with rfl | rfl | rfl | rfl | rfl
  · rw [if_pos (show zN 0 = (0 : Int32) from rfl), show fX12_fresher (0 : Int32) m = _ from fr 0 (by omega), b_some, e]
    exact C 6 (by omega) hz
  · rw [if_neg (show ¬ (zN 1 = (0 : Int32)) from by decide), if_pos (show zN 1 = (1 : Int32) from rfl), show fX12_fresher (1 : Int32) m = _ from fr 1 (by omega), b_some, e]
    exact C 6 (by omega) hz
  · rw [if_neg (show ¬ (zN 2 = (0 : Int32)) from by decide), if_neg (show ¬ (zN 2 = (1 : Int32)) from by decide), if_pos (show zN 2 = (2 : Int32) from rfl), show fX12_fresher (2 : Int32) m = _ from fr 2 (by omega), b_some, e]
    exact C 12 (by omega) hz
  · rw [if_neg (show ¬ (zN 3 = (0 : Int32)) from by decide), if_neg (show ¬ (zN 3 = (1 : Int32)) from by decide), if_neg (show ¬ (zN 3 = (2 : Int32)) from by decide), if_pos (show zN 3 = (3 : Int32) from rfl), show fX12_fresher (3 : Int32) m = _ from fr 3 (by omega), b_some, e]
    exact C 10 (by omega) hz
  · rw [if_neg (show ¬ (zN 4 = (0 : Int32)) from by decide), if_neg (show ¬ (zN 4 = (1 : Int32)) from by decide), if_neg (show ¬ (zN 4 = (2 : Int32)) from by decide), if_neg (show ¬ (zN 4 = (3 : Int32)) from by decide), if_pos (show zN 4 = (4 : Int32) from rfl), show fX12_fresher (4 : Int32) m = _ from fr 4 (by omega), b_some, e]
    exact C 8 (by omega) hz
