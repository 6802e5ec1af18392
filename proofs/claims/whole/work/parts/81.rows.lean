/-! lines that tell a row of three -/
def RX (Z : Nat → Nat) (o i : Nat) (A B : Mem) : Prop := (o = 7 ∨ o = 25) ∧ (i < 5) ∧ (Z i < mostT i) ∧ (OrdR Z o A (hfM B))
theorem RX.ho {Z : Nat → Nat} {o i : Nat} {A B : Mem} (h : RX Z o i A B) : o = 7 ∨ o = 25 := h.1
theorem RX.hi {Z : Nat → Nat} {o i : Nat} {A B : Mem} (h : RX Z o i A B) : i < 5 := h.2.1
theorem RX.hz {Z : Nat → Nat} {o i : Nat} {A B : Mem} (h : RX Z o i A B) : Z i < mostT i := h.2.2.1
theorem RX.od {Z : Nat → Nat} {o i : Nat} {A B : Mem} (h : RX Z o i A B) : OrdR Z o A (hfM B) := h.2.2.2
def RS (Z : Nat → Nat) (o i n : Nat) (bt : Nat → Nat) (A B : Mem) (vs : Nat → Int32) (c p pl : Nat) (mC mR : Mem) : Prop := (mR.1 99 30 = 0) ∧ (TkB n bt mC mR) ∧ (Tkn p pl mC mR) ∧ (p ≤ n) ∧ (∀ q, q < c → mC.1 (o + 2 + 2 * i) (3 * Z i + q) = vs q ∧ mR.1 (102 + 3 * i + q) (mostT i + Z i) = vs q) ∧ (∀ cc j, ¬ (cc = 5 ∧ 3 ≤ j ∧ j ≤ 6) → ¬ (cc = o + 2 + 2 * i ∧ 3 * Z i ≤ j) → mC.1 cc j = A.1 cc j) ∧ (mC.2 = A.2) ∧ (∀ cc j, ¬ (cc = 99 ∧ 26 ≤ j ∧ j ≤ 29) → ¬ (102 + 3 * i ≤ cc ∧ cc ≤ 104 + 3 * i ∧ j = mostT i + Z i) → mR.1 cc j = B.1 cc j)
theorem RS.fl {Z : Nat → Nat} {o i n : Nat} {bt : Nat → Nat} {A B : Mem} {vs : Nat → Int32} {c p pl : Nat} {mC mR : Mem} (h : RS Z o i n bt A B vs c p pl mC mR) : mR.1 99 30 = 0 := h.1
theorem RS.tb {Z : Nat → Nat} {o i n : Nat} {bt : Nat → Nat} {A B : Mem} {vs : Nat → Int32} {c p pl : Nat} {mC mR : Mem} (h : RS Z o i n bt A B vs c p pl mC mR) : TkB n bt mC mR := h.2.1
theorem RS.tk {Z : Nat → Nat} {o i n : Nat} {bt : Nat → Nat} {A B : Mem} {vs : Nat → Int32} {c p pl : Nat} {mC mR : Mem} (h : RS Z o i n bt A B vs c p pl mC mR) : Tkn p pl mC mR := h.2.2.1
theorem RS.pn {Z : Nat → Nat} {o i n : Nat} {bt : Nat → Nat} {A B : Mem} {vs : Nat → Int32} {c p pl : Nat} {mC mR : Mem} (h : RS Z o i n bt A B vs c p pl mC mR) : p ≤ n := h.2.2.2.1
theorem RS.va {Z : Nat → Nat} {o i n : Nat} {bt : Nat → Nat} {A B : Mem} {vs : Nat → Int32} {c p pl : Nat} {mC mR : Mem} (h : RS Z o i n bt A B vs c p pl mC mR) : ∀ q, q < c → mC.1 (o + 2 + 2 * i) (3 * Z i + q) = vs q ∧ mR.1 (102 + 3 * i + q) (mostT i + Z i) = vs q := h.2.2.2.2.1
theorem RS.fC {Z : Nat → Nat} {o i n : Nat} {bt : Nat → Nat} {A B : Mem} {vs : Nat → Int32} {c p pl : Nat} {mC mR : Mem} (h : RS Z o i n bt A B vs c p pl mC mR) : ∀ cc j, ¬ (cc = 5 ∧ 3 ≤ j ∧ j ≤ 6) → ¬ (cc = o + 2 + 2 * i ∧ 3 * Z i ≤ j) → mC.1 cc j = A.1 cc j := h.2.2.2.2.2.1
theorem RS.fJ {Z : Nat → Nat} {o i n : Nat} {bt : Nat → Nat} {A B : Mem} {vs : Nat → Int32} {c p pl : Nat} {mC mR : Mem} (h : RS Z o i n bt A B vs c p pl mC mR) : mC.2 = A.2 := h.2.2.2.2.2.2.1
theorem RS.fR {Z : Nat → Nat} {o i n : Nat} {bt : Nat → Nat} {A B : Mem} {vs : Nat → Int32} {c p pl : Nat} {mC mR : Mem} (h : RS Z o i n bt A B vs c p pl mC mR) : ∀ cc j, ¬ (cc = 99 ∧ 26 ≤ j ∧ j ≤ 29) → ¬ (102 + 3 * i ≤ cc ∧ cc ≤ 104 + 3 * i ∧ j = mostT i + Z i) → mR.1 cc j = B.1 cc j := h.2.2.2.2.2.2.2
theorem lay_row {o i : Nat} (ho : o = 7 ∨ o = 25) (hi : i < 5) : lay (o + 1 + 2 * i + 1) = (1, 3 * mostT i) ∧ mostT i ≤ 12 := by
  have d : ∀ i, i < 5 → lay (7 + 1 + 2 * i + 1) = (1, 3 * mostT i) ∧ lay (25 + 1 + 2 * i + 1) = (1, 3 * mostT i) ∧ mostT i ≤ 12 := by decide
  rcases ho with rfl | rfl
  · exact ⟨(d i hi).1, (d i hi).2.2⟩
  · exact (d i hi).2
theorem RX.sA {Z : Nat → Nat} {o i : Nat} {A B : Mem} (X : RX Z o i A B) {q : Nat} (hq : q < 5) : A.1 (o + 1 + 2 * q) 2 = zN (Z q) ∧ B.1 101 (8 + q) = zN (Z q) := by
  refine ⟨X.od.sC q hq, ?_⟩
  have := X.od.sR q hq
  rw [hfM_at (by omega) (by omega)] at this
  exact this
theorem RX.rr {Z : Nat → Nat} {o i : Nat} {A B : Mem} (X : RX Z o i A B) {q k c : Nat} (hq : q < 5) (hk : k < Z q) (hc : c < 3) : A.1 (o + 2 + 2 * q) (3 * k + c) = B.1 (102 + 3 * q + c) (mostT q + k) := by
  have := X.od.rw q k c hq hk hc
  rw [hfM_at (by omega) (by omega), hf_row q hq c hc] at this
  exact this
theorem RX.o7 {Z : Nat → Nat} {o i : Nat} {A B : Mem} (X : RX Z o i A B) : 7 ≤ o ∧ o ≤ 25 := by
  have := X.ho
  omega
theorem RS.s2 {Z : Nat → Nat} {o i n : Nat} {bt : Nat → Nat} {A B : Mem} {vs : Nat → Int32} {c p pl : Nat} {mC mR : Mem} (h : RS Z o i n bt A B vs c p pl mC mR) (X : RX Z o i A B) {q : Nat} (hq : q < 5) : mC.1 (o + 1 + 2 * q) 2 = zN (Z q) ∧ mR.1 101 (8 + q) = zN (Z q) := by
  have o7 := X.o7
  have hi := X.hi
  obtain ⟨a, b⟩ := X.sA hq
  exact ⟨by rw [h.fC _ _ (by omega) (by omega)]; exact a, by rw [h.fR _ _ (by omega) (by omega)]; exact b⟩
theorem set_ok {x0 z c n : Nat} {v : Int32} {m : Mem} (hl : lay (x0 + 1) = (1, n)) (hn : n ≤ 1000) (e : m.1 x0 2 = zN z) (h : 3 * z + c < n) : fX9_set x0 (zN c) v m = some (mI m (x0 + 1) (3 * z + c) v) := by
  unfold fX9_set
  rw [e, zN_3, hl, if_neg (znn (by omega)), if_neg (show ¬ (Int32.ofNat n ≤ zN (3 * z + c)) from zle (by omega) (by omega) h), g_in (by exact h) (by show n ≤ _; omega), zN_cl (by omega)]
theorem Tkn.r {p pl : Nat} {mC mR : Mem} (h : Tkn p pl mC mR) {mC' mR' : Mem} (hC : ∀ j, 3 ≤ j → j ≤ 6 → mC'.1 5 j = mC.1 5 j) (hR : ∀ j, 26 ≤ j → j ≤ 29 → mR'.1 99 j = mR.1 99 j) : Tkn p pl mC' mR' := by
  refine ⟨?_, ?_, ?_, ?_, h.lp, ?_⟩
  · rw [hC _ (by omega) (by omega)]
    exact h.nC
  · rw [hR _ (by omega) (by omega)]
    exact h.nR
  · rw [hC _ (by omega) (by omega)]
    exact h.lC
  · rw [hR _ (by omega) (by omega)]
    exact h.lR
  · rw [hC _ (by omega) (by omega), hC _ (by omega) (by omega), hR _ (by omega) (by omega), hR _ (by omega) (by omega)]
    exact h.kk
theorem FlR.r {mC mR : Mem} {c k : Nat} {v : Int32} (h : FlR mC mR) (hc : c ≠ 99) : FlR mC (mI mR c k v) := by
  unfold FlR
  rw [mI_n (by omega), mI_n (by omega)]
  exact h
theorem FlR.q {mC mR mR' : Mem} (h : FlR mC mR) (h1 : mR'.1 99 30 = mR.1 99 30) (h2 : mR'.1 99 31 = mR.1 99 31) : FlR mC mR' := by
  unfold FlR
  rw [h1, h2]
  exact h
theorem RS.put {N : Nat} {Z : Nat → Nat} {o i n : Nat} {bt : Nat → Nat} {A B : Mem} {vs : Nat → Int32} {c p pl : Nat} {mC mR : Mem} (hN : 1000 ≤ N) (X : RX Z o i A B) (h : RS Z o i n bt A B vs c p pl mC mR) (hc : c < 3) (v : Int32) : ∃ MC MR p' pl', fX10_advance N (mI mC (o + 1 + 2 * i + 1) (3 * Z i + c) v) = some MC ∧ fX12_token N mR = some MR ∧ RS Z o i n bt A B (fun q => if q = c then v else vs q) (c + 1) p' pl' MC (mI MR (102 + 3 * i + c) (mostT i + Z i) v) ∧ p ≤ p' := by
  have o7 := X.o7
  have hi := X.hi
  have TB : TkB n bt (mI mC (o + 1 + 2 * i + 1) (3 * Z i + c) v) mR := h.tb.cong (fun c j p _ _ => mI_n (by omega)) (fun _ _ _ _ _ => rfl)
  obtain ⟨MC, MR, p', pl', a1, a2, a3, a4, a5, a6, a7, a8, a9⟩ := tok_rel hN TB (by rw [mI_n (by omega)]; exact h.tk.nC) h.tk.nR h.pn
  refine ⟨MC, MR, p', pl', a1, a2, ⟨?_, ?_, a3.r (fun _ _ _ => rfl) (fun j _ _ => mI_n (by omega)), a5, fun q hq => ?_, fun cc j w1 w2 => ?_, a8.trans h.fJ, fun cc j w1 w2 => ?_⟩, by have := a3.lp; omega⟩
  · rw [mI_n (by omega), a9 _ _ (by omega)]
    exact h.fl
  · exact TB.cong (fun cc j w _ _ => a7 cc j (by omega)) (fun cc j w _ _ => by rw [mI_n (by omega), a9 cc j (by omega)])
  · dsimp only
    by_cases e : q = c
    · rw [if_pos e, e, a7 _ _ (by omega), mI_s (by omega), mI_s (by omega)]
      exact ⟨rfl, rfl⟩
    · rw [if_neg e, a7 _ _ (by omega), mI_n (by omega), mI_n (by omega), a9 _ _ (by omega)]
      exact h.va q (by omega)
  · rw [a7 cc j (by omega), mI_n (by omega), h.fC cc j w1 w2]
  · rw [mI_n (by omega), a9 _ _ (by omega), h.fR cc j w1 w2]
theorem RS.put2 {N : Nat} {Z : Nat → Nat} {o i n : Nat} {bt : Nat → Nat} {A B : Mem} {vs : Nat → Int32} {c p pl : Nat} {mC mR : Mem} (hN : 1000 ≤ N) (X : RX Z o i A B) (h : RS Z o i n bt A B vs c p pl mC mR) (hc : c < 3) (v : Int32) : ∃ MC MR p' pl', fX10_advance N (mI mC (o + 1 + 2 * i + 1) (3 * Z i + c) v) = some MC ∧ fX12_goOn N (mI mR (102 + 3 * i + c) (mostT i + Z i) v) = some MR ∧ RS Z o i n bt A B (fun q => if q = c then v else vs q) (c + 1) p' pl' MC MR ∧ p ≤ p' := by
  have o7 := X.o7
  have hi := X.hi
  have TB : TkB n bt (mI mC (o + 1 + 2 * i + 1) (3 * Z i + c) v) (mI mR (102 + 3 * i + c) (mostT i + Z i) v) := h.tb.cong (fun c j p _ _ => mI_n (by omega)) (fun c j p _ _ => mI_n (by omega))
  obtain ⟨MC, MR, p', pl', a1, a2, a3, a4, a5, a6, a7, a8, a9⟩ := tok_rel hN TB (by rw [mI_n (by omega)]; exact h.tk.nC) (by rw [mI_n (by omega)]; exact h.tk.nR) h.pn
  refine ⟨MC, MR, p', pl', a1, ?_, ⟨?_, ?_, a3, a5, fun q hq => ?_, fun cc j w1 w2 => ?_, a8.trans h.fJ, fun cc j w1 w2 => ?_⟩, by have := a3.lp; omega⟩
  · unfold fX12_goOn
    rw [if_pos (by rw [mI_n (by omega)]; exact h.fl), a2, b_some]
  · rw [a9 _ _ (by omega), mI_n (by omega)]
    exact h.fl
  · exact TB.cong (fun cc j w _ _ => a7 cc j (by omega)) (fun cc j w _ _ => a9 cc j (by omega))
  · dsimp only
    by_cases e : q = c
    · rw [if_pos e, e, a7 _ _ (by omega), mI_s (by omega), a9 _ _ (by omega), mI_s (by omega)]
      exact ⟨rfl, rfl⟩
    · rw [if_neg e, a7 _ _ (by omega), mI_n (by omega), a9 _ _ (by omega), mI_n (by omega)]
      exact h.va q (by omega)
  · rw [a7 cc j (by omega), mI_n (by omega), h.fC cc j w1 w2]
  · rw [a9 _ _ (by omega), mI_n (by omega), h.fR cc j w1 w2]
def Rst (Z : Nat → Nat) (o i n : Nat) (bt : Nat → Nat) (A B : Mem) (cS : Mem → Option (Int32 × Mem)) (rS : Mem → Option Mem) (c : Nat) (H P : (Nat → Int32) → Prop) : Prop := ∀ (vs : Nat → Int32) (p pl : Nat) (mC mR : Mem), H vs → RS Z o i n bt A B vs c p pl mC mR → (∃ mC' mR', cS mC = some (0, mC') ∧ rS mR = some mR' ∧ FlR mC' mR' ∧ TFC o mC mC' ∧ TFR mR mR') ∨ (∃ v p' pl' mC' mR', cS mC = some (1, mC') ∧ rS mR = some mR' ∧ P (fun q => if q = c then v else vs q) ∧ RS Z o i n bt A B (fun q => if q = c then v else vs q) (c + 1) p' pl' mC' mR' ∧ p ≤ p')
def StF (rS : Mem → Option Mem) : Prop := ∀ m : Mem, ¬ m.1 99 30 = 0 → ∃ m', rS m = some m' ∧ m'.1 99 30 = m.1 99 30 ∧ m'.1 99 31 = m.1 99 31 ∧ TFR m m'
theorem RX.up {Z : Nat → Nat} {o i : Nat} {A B m : Mem} {c : Nat} {v : Int32} (X : RX Z o i A B) (hc : c < 3) : TFR m (mI m (102 + 3 * i + c) (mostT i + Z i) v) := by
  have hi := X.hi
  exact TFR.up (by omega) (by omega) (by rw [hf_row i hi c hc]; omega)
theorem num_stp {N : Nat} {Z : Nat → Nat} {o i n : Nat} {bt : Nat → Nat} {A B : Mem} {c lo hi : Nat} (hN : 1000 ≤ N) (X : RX Z o i A B) (hc : c < 3) (h1 : lo ≤ hi) (h2 : hi ≤ 99999) {H : (Nat → Int32) → Prop} (hH : ∀ vs v, H vs → H (fun q => if q = c then v else vs q)) : Rst Z o i n bt A B (fun m => fX8_readCell N (o + 1 + 2 * i) (zN c) (zN lo) (zN hi) m) (fun m => (fX12_numeral N (zN lo) (zN hi) m).bind (fun q => some (mI q.2 (102 + 3 * i + c) (mostT i + Z i) q.1))) c H (fun vs => H vs ∧ Bd (vs c) lo hi) := by
  intro vs p pl mC mR hv h
  have o7 := X.o7
  have hi5 := X.hi
  have hz := X.hz
  obtain ⟨l1, l2⟩ := lay_row X.ho X.hi
  dsimp only
  unfold fX8_readCell
  rcases isnum_rel h.tk h.fl h1 h2 with ⟨v, v1, v2, e1, e2⟩ | ⟨a, a1, a2, a3, e1, e2⟩
  · rw [e1, b_some, if_pos rfl, e2, b_some]
    exact Or.inl ⟨_, _, rfl, rfl, (FlR.mk h.tk ⟨v1, v2⟩).r (by omega), TFC.fail (by omega), TFR.fail.tr (X.up hc)⟩
  · obtain ⟨MC, MR, p', pl', b1, b2, b3, b4⟩ := h.put hN X hc (zN a)
    rw [e1, b_some, if_neg z10, a3, set_ok l1 (by omega) (h.s2 X hi5).1 (by omega), b_some, b1, b_some, e2, b2, b_some, b_some]
    exact Or.inr ⟨zN a, p', pl', MC, _, rfl, rfl, ⟨hH vs (zN a) hv, a, a1, a2, if_pos rfl⟩, b3, b4⟩
theorem num_f {N : Nat} {Z : Nat → Nat} {o i : Nat} {A B : Mem} {c : Nat} {lo hi : Int32} (X : RX Z o i A B) (hc : c < 3) : StF (fun m => (fX12_numeral N lo hi m).bind (fun q => some (mI q.2 (102 + 3 * i + c) (mostT i + Z i) q.1))) := by
  intro m f
  dsimp only
  rw [numeral_f f, b_some]
  exact ⟨_, rfl, mI_n (by omega), mI_n (by omega), X.up hc⟩
/-- names told -/
theorem RS.find {N : Nat} {Z : Nat → Nat} {o i n : Nat} {bt : Nat → Nat} {A B : Mem} {vs : Nat → Int32} {c p pl : Nat} {mC mR : Mem} (hN : 1000 ≤ N) (X : RX Z o i A B) (h : RS Z o i n bt A B vs c p pl mC mR) {j : Nat} (hj : j < 2) (x : Int32) : ∃ v, fX9_find N (o + 1 + 2 * j) x mC = some v ∧ fX12_found N (102 + 3 * j) (6 : Int32) (zN (Z j)) x mR = some v ∧ (v = -1 ∨ ∃ t, t < Z j ∧ v = zN t) := by
  have o7 := X.o7
  have hi5 := X.hi
  have hz := X.od.zb
  have m6 : mostT j = 6 ∧ (lay (102 + 3 * j)).2 = 12 ∧ Z j ≤ 6 := by
    have : j = 0 ∨ j = 1 := by omega
    rcases this with rfl | rfl
    · exact ⟨rfl, rfl, by omega⟩
    · exact ⟨rfl, rfl, by omega⟩
  obtain ⟨l1, l2⟩ := lay_row X.ho (show j < 5 by omega)
  rw [m6.1] at l1
  obtain ⟨v, a1, a2, a3⟩ := find_rel (N := N) (x0 := o + 1 + 2 * j) (r := 102 + 3 * j) (f := 6) (c := Z j) (n := 3 * 6) (x := x) (mC := mC) (mR := mR) l1 (by omega) (by omega) (by omega) (by omega) (h.s2 X (show j < 5 by omega)).1 (fun k hk => by
    have r := X.rr (show j < 5 by omega) hk (show 0 < 3 by omega)
    rw [m6.1, Nat.add_zero, Nat.add_zero, show o + 2 + 2 * j = o + 1 + 2 * j + 1 from by omega] at r
    have hzi := X.hz
    by_cases e : j = i
    · rw [h.fC _ _ (by omega) (by rw [← e]; omega), h.fR _ _ (by omega) (by rw [← e, m6.1]; omega)]
      exact r
    · rw [h.fC _ _ (by omega) (by omega), h.fR _ _ (by omega) (by omega)]
      exact r) (Z j) 0 N N (by omega) (by omega) (by omega)
  refine ⟨v, a1, a2, ?_⟩
  rcases a3 with ⟨w, _⟩ | ⟨t, t1, t2, _⟩
  · exact Or.inl w
  · exact Or.inr ⟨t, t1, t2⟩
theorem new_stp {N : Nat} {Z : Nat → Nat} {o i n : Nat} {bt : Nat → Nat} {A B : Mem} (hN : 1000 ≤ N) (X : RX Z o i A B) (hi2 : i < 2) : Rst Z o i n bt A B (fun m => fX8_readNewName N (o + 1 + 2 * i) m) (fun m => (fX12_fresh N (102 + 3 * i) (6 : Int32) (m.1 101 (8 + i)) m).bind (fun q => some (mI q.2 (102 + 3 * i + 0) (mostT i + Z i) q.1))) 0 (fun _ => True) (fun _ => True) := by
  intro vs p pl mC mR hv h
  have o7 := X.o7
  have hi5 := X.hi
  have hz := X.hz
  have kk := h.tk.kk
  obtain ⟨l1, l2⟩ := lay_row X.ho X.hi
  dsimp only
  have W44 : ∀ v : Nat, 1 ≤ v → v ≤ 5 → fX12_fresh_44 N (mI (mI mR 99 30 (zN v)) 99 31 (mR.1 99 27)) = some (0, mI (mI mR 99 30 (zN v)) 99 31 (mR.1 99 27)) := by
    intro v a b
    unfold fX12_fresh_44
    rw [if_neg (FlR.mk h.tk ⟨a, b⟩).2.2]
  unfold fX8_readNewName fX12_fresh
  rw [if_pos h.fl, (h.s2 X hi5).2]
  by_cases q : mC.1 5 4 = (-3 : Int32)
  · have so := kk.nm.2.1.mpr q
    have ev : mC.1 5 6 = mR.1 99 29 := by
      rcases kk with ⟨z1, z2⟩ | ⟨w', w1, z1, z2, z3⟩ | ⟨z1, z2, z3⟩ | ⟨z1, z2, z3⟩ | ⟨x', y', hx', z1, z2, z3⟩ | ⟨z1, z2⟩
      · exact absurd (z2.symm.trans so) (by decide)
      · exact absurd (z2.symm.trans so) (by decide)
      · exact z3
      · exact absurd (z2.symm.trans so) (by decide)
      · exact absurd (z2.symm.trans so) (by decide)
      · exact absurd (z2.symm.trans so) (by decide)
    obtain ⟨v, v1, v2, v3⟩ := h.find hN X hi2 (mC.1 5 6)
    rw [ev] at v2
    rw [if_pos q, if_pos so, v1, b_some, v2, b_some]
    rcases v3 with e | ⟨t, t1, e⟩
    · obtain ⟨MC, MR, p', pl', b1, b2, b3, b4⟩ := h.put hN X (show 0 < 3 by omega) (mC.1 5 6)
      rw [e, if_pos (show (-1 : Int32) < 0 from by decide), if_pos rfl, show fX9_set (o + 1 + 2 * i) (0 : Int32) (mC.1 5 6) mC = _ from set_ok (c := 0) l1 (by omega) (h.s2 X hi5).1 (by omega), b_some, b1, b_some]
      unfold fX12_fresh_44
      rw [if_pos h.fl, b2, b_some, b_some, ← ev]
      exact Or.inr ⟨_, p', pl', MC, _, rfl, rfl, trivial, b3, b4⟩
    · have z6 : Z i ≤ 12 := by omega
      rw [e, if_neg (znn (by omega)), if_neg (show ¬ (zN t = (-1 : Int32)) from by rw [zN_m1 (by omega)]; exact id), show fX8_fail (3 : Int32) mC = _ from fail_ok (v := 3), b_some, if_pos (Or.inl rfl), show fX12_wrong (3 : Int32) mR = _ from wrong_ok (v := 3) h.fl, b_some, W44 3 (by omega) (by omega), b_some]
      exact Or.inl ⟨_, _, rfl, rfl, (FlR.mk h.tk (v := 3) (by omega)).r (by omega), TFC.fail (by omega), TFR.fail.tr (X.up (by omega))⟩
  · have so : ¬ (mR.1 99 28 = 1) := fun z => q (kk.nm.2.1.mp z)
    rw [if_neg q, if_neg so, show fX8_fail (1 : Int32) mC = _ from fail_ok (v := 1), b_some, if_pos (Or.inl rfl), show fX12_wrong (1 : Int32) mR = _ from wrong_ok (v := 1) h.fl, b_some, W44 1 (by omega) (by omega), b_some]
    exact Or.inl ⟨_, _, rfl, rfl, (FlR.mk h.tk (v := 1) (by omega)).r (by omega), TFC.fail (by omega), TFR.fail.tr (X.up (by omega))⟩
theorem hand_rel {N : Nat} {Z : Nat → Nat} {o i n : Nat} {bt : Nat → Nat} {A B : Mem} {vs : Nat → Int32} {c p pl : Nat} {mC mR : Mem} (hN : 1000 ≤ N) (X : RX Z o i A B) (h : RS Z o i n bt A B vs c p pl mC mR) {j : Nat} (hj : j < 2) : (∃ v, 1 ≤ v ∧ v ≤ 5 ∧ (mC.1 5 4 = -3 → fX9_find N (o + 1 + 2 * j) (mC.1 5 6) mC = some (-1)) ∧ (∀ r x, fX8_readToldName N (o + 1 + 2 * j) r x mC = some (0, mI (mI mC 2 7 (zN v)) 2 8 (mC.1 5 5))) ∧ fX12_atHand N (102 + 3 * j) (6 : Int32) (zN (Z j)) mR = some (0, mI (mI mR 99 30 (zN v)) 99 31 (mR.1 99 27))) ∨ (∃ t, t < Z j ∧ mC.1 5 4 = -3 ∧ fX9_find N (o + 1 + 2 * j) (mC.1 5 6) mC = some (zN t) ∧ (∀ r x, fX8_readToldName N (o + 1 + 2 * j) r x mC = (fX9_set r x (zN t) mC).bind (fun q5 => (fX10_advance N q5).bind (fun q7 => some ((1 : Int32), q7)))) ∧ fX12_atHand N (102 + 3 * j) (6 : Int32) (zN (Z j)) mR = some (zN t, mR)) := by
  have kk := h.tk.kk
  have hzb := X.od.zb
  have z6 : Z j ≤ 6 := by
    have : j = 0 ∨ j = 1 := by omega
    rcases this with rfl | rfl <;> omega
  have W43 : ∀ (v : Nat) (y : Int32), 1 ≤ v → v ≤ 5 → fX12_atHand_63 N y (mI (mI mR 99 30 (zN v)) 99 31 (mR.1 99 27)) = some (0, mI (mI mR 99 30 (zN v)) 99 31 (mR.1 99 27)) := by
    intro v y a b
    unfold fX12_atHand_63
    rw [if_neg (FlR.mk h.tk ⟨a, b⟩).2.2]
  by_cases q : mC.1 5 4 = (-3 : Int32)
  · have so := kk.nm.2.1.mpr q
    have ev : mC.1 5 6 = mR.1 99 29 := by
      rcases kk with ⟨z1, z2⟩ | ⟨w', w1, z1, z2, z3⟩ | ⟨z1, z2, z3⟩ | ⟨z1, z2, z3⟩ | ⟨x', y', hx', z1, z2, z3⟩ | ⟨z1, z2⟩
      · exact absurd (z2.symm.trans so) (by decide)
      · exact absurd (z2.symm.trans so) (by decide)
      · exact z3
      · exact absurd (z2.symm.trans so) (by decide)
      · exact absurd (z2.symm.trans so) (by decide)
      · exact absurd (z2.symm.trans so) (by decide)
    obtain ⟨v, v1, v2, v3⟩ := h.find hN X hj (mC.1 5 6)
    have v2' := v2
    rw [ev] at v2'
    have AH : fX12_atHand N (102 + 3 * j) (6 : Int32) (zN (Z j)) mR = fX12_atHand_43 N v mR := by
      unfold fX12_atHand fX12_atHand_22
      rw [if_pos h.fl, if_pos so, if_pos h.fl, v2', b_some]
    rcases v3 with e | ⟨t, t1, e⟩
    · refine Or.inl ⟨4, by omega, by omega, fun _ => by rw [v1, e], fun r x => ?_, ?_⟩
      · unfold fX8_readToldName
        rw [if_pos q, v1, b_some, e, if_neg (by decide), show fX8_fail (4 : Int32) mC = _ from fail_ok (v := 4), b_some, if_pos (Or.inl rfl)]
      · rw [AH, e]
        unfold fX12_atHand_43
        rw [if_pos h.fl, if_pos rfl, show fX12_wrong (4 : Int32) mR = _ from wrong_ok (v := 4) h.fl, b_some, W43 4 _ (by omega) (by omega)]
    · refine Or.inr ⟨t, t1, q, by rw [v1, e], fun r x => ?_, ?_⟩
      · unfold fX8_readToldName
        rw [if_pos q, v1, b_some, e, if_pos (show (0 : Int32) ≤ zN t from zle' (a := 0) (by omega) (by omega) (by omega))]
      · rw [AH, e]
        unfold fX12_atHand_43 fX12_atHand_63
        rw [if_pos h.fl, if_neg (show ¬ (zN t = (-1 : Int32)) from by rw [zN_m1 (by omega)]; exact id), if_pos h.fl]
  · have so : ¬ (mR.1 99 28 = 1) := fun z => q (kk.nm.2.1.mp z)
    refine Or.inl ⟨1, by omega, by omega, fun z => absurd z q, fun r x => ?_, ?_⟩
    · unfold fX8_readToldName
      rw [if_neg q, show fX8_fail (1 : Int32) mC = _ from fail_ok (v := 1), b_some, if_pos (Or.inl rfl)]
    · unfold fX12_atHand
      rw [if_pos h.fl, if_neg so, show fX12_wrong (1 : Int32) mR = _ from wrong_ok (v := 1) h.fl, b_some]
      have f : ¬ (mI (mI mR 99 30 (zN 1)) 99 31 (mR.1 99 27)).1 99 30 = 0 := (FlR.mk h.tk (v := 1) (by omega)).2.2
      unfold fX12_atHand_22 fX12_atHand_43
      rw [if_neg f, if_neg f, W43 1 _ (by omega) (by omega)]
