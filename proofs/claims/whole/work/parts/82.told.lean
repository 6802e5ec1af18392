/-! names told ahead; a row told to its end -/
theorem ahead_stp {N : Nat} {Z : Nat → Nat} {o i n : Nat} {bt : Nat → Nat} {A B : Mem} {c : Nat} (hN : 1000 ≤ N) (X : RX Z o i A B) (hc : c < 3) {H : (Nat → Int32) → Prop} (hH : ∀ vs v, H vs → H (fun q => if q = c then v else vs q)) : Rst Z o i n bt A B (fun m => fX8_readToldName N (o + 1 + 2 * 1) (o + 1 + 2 * i) (zN c) m) (fun m => (fX12_tubAhead N m).bind (fun q => some (mI q.2 (102 + 3 * i + c) (mostT i + Z i) q.1))) c H (fun vs => H vs ∧ ∃ t, t < Z 1 ∧ vs c = zN t) := by
  intro vs p pl mC mR hv h
  have o7 := X.o7
  have hi5 := X.hi
  have hz := X.hz
  obtain ⟨l1, l2⟩ := lay_row X.ho X.hi
  dsimp only
  unfold fX12_tubAhead
  rw [show fX12_fresher (1 : Int32) mR = _ from fr_ok (i := 1) (by omega) mR, b_some, (h.s2 X (show 1 < 5 by omega)).2]
  rcases hand_rel hN X h (show 1 < 2 by omega) with ⟨v, v1, v2, _, e1, e2⟩ | ⟨t, t1, _, _, e1, e2⟩
  · have F := FlR.mk h.tk ⟨v1, v2⟩
    rw [e1, show fX12_atHand N 105 (6 : Int32) (zN (Z 1)) mR = _ from e2, b_some, goOn_f F.2.2, b_some, b_some]
    exact Or.inl ⟨_, _, rfl, rfl, F.r (by omega), TFC.fail (by omega), TFR.fail.tr (X.up hc)⟩
  · obtain ⟨MC, MR, p', pl', b1, b2, b3, b4⟩ := h.put hN X hc (zN t)
    have G : fX12_goOn N mR = some MR := by
      unfold fX12_goOn
      rw [if_pos h.fl, b2, b_some]
    rw [e1, set_ok l1 (by omega) (h.s2 X hi5).1 (by omega), b_some, b1, b_some, show fX12_atHand N 105 (6 : Int32) (zN (Z 1)) mR = _ from e2, b_some, G, b_some, b_some]
    exact Or.inr ⟨zN t, p', pl', MC, _, rfl, rfl, ⟨hH vs (zN t) hv, t, t1, if_pos rfl⟩, b3, b4⟩
theorem ahead_f {N : Nat} {Z : Nat → Nat} {o i : Nat} {A B : Mem} {c : Nat} (X : RX Z o i A B) (hc : c < 3) : StF (fun m => (fX12_tubAhead N m).bind (fun q => some (mI q.2 (102 + 3 * i + c) (mostT i + Z i) q.1))) := by
  intro m f
  dsimp only
  rw [tubAhead_f f, b_some]
  exact ⟨_, rfl, mI_n (by omega), mI_n (by omega), X.up hc⟩
theorem hand_stp {N : Nat} {Z : Nat → Nat} {o i n : Nat} {bt : Nat → Nat} {A B : Mem} {c : Nat} (hN : 1000 ≤ N) (X : RX Z o i A B) (hc : c < 3) : Rst Z o i n bt A B (fun m => fX8_readToldName N (o + 1 + 2 * 0) (o + 1 + 2 * i) (zN c) m) (fun m => (fX12_atHand N (102 + 3 * 0) (6 : Int32) (m.1 101 (8 + 0)) m).bind (fun q => fX12_goOn N (mI q.2 (102 + 3 * i + c) (mostT i + Z i) q.1))) c (fun _ => True) (fun vs => ∃ t, t < Z 0 ∧ vs c = zN t) := by
  intro vs p pl mC mR hv h
  have o7 := X.o7
  have hi5 := X.hi
  have hz := X.hz
  obtain ⟨l1, l2⟩ := lay_row X.ho X.hi
  dsimp only
  rw [(h.s2 X (show 0 < 5 by omega)).2]
  rcases hand_rel hN X h (show 0 < 2 by omega) with ⟨v, v1, v2, _, e1, e2⟩ | ⟨t, t1, _, _, e1, e2⟩
  · have F := (FlR.mk h.tk ⟨v1, v2⟩).r (c := 102 + 3 * i + c) (k := mostT i + Z i) (v := 0) (by omega)
    rw [e1, e2, b_some, goOn_f F.2.2]
    exact Or.inl ⟨_, _, rfl, rfl, F, TFC.fail (by omega), TFR.fail.tr (X.up hc)⟩
  · obtain ⟨MC, MR, p', pl', b1, b2, b3, b4⟩ := h.put2 hN X hc (zN t)
    rw [e1, set_ok l1 (by omega) (h.s2 X hi5).1 (by omega), b_some, b1, b_some, e2, b_some, b2]
    exact Or.inr ⟨zN t, p', pl', MC, _, rfl, rfl, ⟨t, t1, if_pos rfl⟩, b3, b4⟩
/-- the other tub of a pipe -/
theorem pipe_stp {N : Nat} {Z : Nat → Nat} {o n : Nat} {bt : Nat → Nat} {A B : Mem} (hN : 1000 ≤ N) (X : RX Z o 4 A B) : Rst Z o 4 n bt A B (fun m => if (m.1 5 4) = (-3 : Int32) then ((fX9_find N (o + 3) (m.1 5 6) m).bind (fun q17 => (fX9_cell (o + 9) (m.1 (o + 9) 2) (0 : Int32) m).bind (fun q19 => if q17 = q19 then ((fX8_fail (5 : Int32) m).bind (fun q22 => if q22.1 = 0 ∨ q22.1 = 1 then (some (q22.1, q22.2)) else none)) else (fX8_readToldName N (o + 3) (o + 9) (1 : Int32) m)))) else (fX8_readToldName N (o + 3) (o + 9) (1 : Int32) m)) (fun m => (fX12_atHand N 105 (6 : Int32) (m.1 101 9) m).bind (fun q => if ((mI q.2 115 (8 + Z 4) q.1).1 99 30) = 0 then (if ((mI q.2 115 (8 + Z 4) q.1).1 115 (8 + Z 4)) = ((mI q.2 115 (8 + Z 4) q.1).1 114 (8 + Z 4)) then ((fX12_wrong (5 : Int32) (mI q.2 115 (8 + Z 4) q.1)).bind (fun q24 => fX12_goOn N q24)) else (fX12_goOn N (mI q.2 115 (8 + Z 4) q.1))) else (fX12_goOn N (mI q.2 115 (8 + Z 4) q.1)))) 1 (fun vs => ∃ t, t < Z 1 ∧ vs 0 = zN t) (fun vs => ∃ f t, f < Z 1 ∧ t < Z 1 ∧ f ≠ t ∧ vs 0 = zN f ∧ vs 1 = zN t) := by
  intro vs p pl mC mR hv h
  obtain ⟨f, f1, f2⟩ := hv
  have o7 := X.o7
  have hz := X.hz
  have zb := X.od.zb
  have m8 : mostT 4 = 8 := rfl
  obtain ⟨l1, l2⟩ := lay_row X.ho X.hi
  obtain ⟨va1, va2⟩ := h.va 0 (by omega)
  rw [f2] at va1 va2
  have va1 : mC.1 (o + 10) (3 * Z 4) = zN f := va1
  have va2 : mR.1 114 (8 + Z 4) = zN f := va2
  have e9 : mC.1 (o + 9) 2 = zN (Z 4) := (h.s2 X (show 4 < 5 by omega)).1
  have e11 : mR.1 101 9 = zN (Z 1) := (h.s2 X (show 1 < 5 by omega)).2
  have CL : fX9_cell (o + 9) (zN (Z 4)) (0 : Int32) mC = some (zN f) := by
    have := cell_eq (x := o + 9) (k := Z 4) (c := 0) (m := mC) l1 (by omega) (by omega)
    rw [show fX9_cell (o + 9) (zN (Z 4)) (0 : Int32) mC = _ from this]
    exact congrArg some va1
  dsimp only
  rw [e9, e11]
  rcases hand_rel hN X h (show 1 < 2 by omega) with ⟨v, v1, v2, e0, e1, e2⟩ | ⟨t, t1, q, e0, e1, e2⟩
  · have F := (FlR.mk h.tk ⟨v1, v2⟩).r (c := 115) (k := 8 + Z 4) (v := 0) (by omega)
    have RT : fX8_readToldName N (o + 3) (o + 9) (1 : Int32) mC = _ := e1 (o + 9) 1
    rw [show fX12_atHand N 105 (6 : Int32) (zN (Z 1)) mR = _ from e2, b_some, if_neg F.2.2, goOn_f F.2.2, RT]
    refine Or.inl ⟨_, _, ?_, rfl, F, TFC.fail (by omega), TFR.fail.tr (TFR.up (by omega) (by omega) (by show 8 ≤ 8 + Z 4; omega))⟩
    by_cases q : mC.1 5 4 = (-3 : Int32)
    · rw [if_pos q, show fX9_find N (o + 3) (mC.1 5 6) mC = _ from e0 q, b_some, CL, b_some, if_neg (show ¬ ((-1 : Int32) = zN f) from fun z => by
        have z := z.symm
        rw [zN_m1 (by omega)] at z
        exact z)]
    · rw [if_neg q]
  · rw [show fX12_atHand N 105 (6 : Int32) (zN (Z 1)) mR = _ from e2, b_some, if_pos q, show fX9_find N (o + 3) (mC.1 5 6) mC = _ from e0, b_some, CL, b_some, mI_n (by omega), if_pos h.fl, mI_s ⟨rfl, rfl⟩, mI_n (by omega), va2]
    by_cases e : t = f
    · rw [if_pos (by rw [e]), if_pos (by rw [e]), show fX8_fail (5 : Int32) mC = _ from fail_ok (v := 5), b_some, if_pos (Or.inl rfl), show fX12_wrong (5 : Int32) (mI mR 115 (8 + Z 4) (zN t)) = _ from wrong_ok (v := 5) (by rw [mI_n (by omega)]; exact h.fl), b_some]
      have F : FlR (mI (mI mC 2 7 (zN 5)) 2 8 (mC.1 5 5)) (mI (mI (mI mR 115 (8 + Z 4) (zN t)) 99 30 (zN 5)) 99 31 ((mI mR 115 (8 + Z 4) (zN t)).1 99 27)) := FlR.mk (h.tk.r (fun _ _ _ => rfl) (fun j _ _ => mI_n (by omega))) (by omega)
      rw [goOn_f F.2.2]
      exact Or.inl ⟨_, _, rfl, rfl, F, TFC.fail (by omega), (TFR.up (by omega) (by omega) (by show 8 ≤ 8 + Z 4; omega)).tr TFR.fail⟩
    · rw [if_neg (zne (by omega) (by omega) e), if_neg (zne (by omega) (by omega) e)]
      obtain ⟨MC, MR, p', pl', b1, b2, b3, b4⟩ := h.put2 hN X (show 1 < 3 by omega) (zN t)
      have RT : fX8_readToldName N (o + 3) (o + 9) (1 : Int32) mC = _ := e1 (o + 9) 1
      rw [RT, show fX9_set (o + 9) (1 : Int32) (zN t) mC = _ from set_ok (c := 1) l1 (by omega) e9 (by omega), b_some, b1, b_some, show fX12_goOn N (mI mR 115 (8 + Z 4) (zN t)) = _ from b2]
      exact Or.inr ⟨zN t, p', pl', MC, _, rfl, rfl, ⟨f, t, f1, t1, fun z => e z.symm, f2, rfl⟩, b3, b4⟩
theorem pipe_f {N z : Nat} (hz : z ≤ 8) : StF (fun m => (fX12_atHand N 105 (6 : Int32) (m.1 101 9) m).bind (fun q => if ((mI q.2 115 (8 + z) q.1).1 99 30) = 0 then (if ((mI q.2 115 (8 + z) q.1).1 115 (8 + z)) = ((mI q.2 115 (8 + z) q.1).1 114 (8 + z)) then ((fX12_wrong (5 : Int32) (mI q.2 115 (8 + z) q.1)).bind (fun q24 => fX12_goOn N q24)) else (fX12_goOn N (mI q.2 115 (8 + z) q.1))) else (fX12_goOn N (mI q.2 115 (8 + z) q.1)))) := by
  intro m f
  have f2 : ¬ (mI m 115 (8 + z) 0).1 99 30 = 0 := by
    rw [mI_n (by omega)]
    exact f
  dsimp only
  rw [atHand_f f, b_some, if_neg f2, goOn_f f2]
  exact ⟨_, rfl, mI_n (by omega), mI_n (by omega), TFR.up (by omega) (by omega) (by show 8 ≤ 8 + z; omega)⟩
/-- three steps and the row is closed -/
def chC (x : Nat) (c0 c1 c2 : Mem → Option (Int32 × Mem)) (m : Mem) : Option (Int32 × Mem) := (c0 m).bind (fun q4 => if q4.1 = 0 then (some ((0 : Int32), q4.2)) else ((c1 q4.2).bind (fun q7 => if q7.1 = 0 then (some ((0 : Int32), q7.2)) else ((c2 q7.2).bind (fun q10 => if q10.1 = 0 then (some ((0 : Int32), q10.2)) else ((fX9_close x q10.2).bind (fun q13 => if q13.1 = 0 then (some ((0 : Int32), q13.2)) else (some ((1 : Int32), q13.2)))))))))
def chR (i : Nat) (r0 r1 r2 : Mem → Option Mem) (m : Mem) : Option Mem := (r0 m).bind (fun m => (r1 m).bind (fun m => (r2 m).bind (fun m => some (mI m 101 (8 + i) (m.1 101 (8 + i) + (1 : Int32))))))
theorem row_line {Z : Nat → Nat} {o i n : Nat} {bt : Nat → Nat} {A B : Mem} {c0 c1 c2 : Mem → Option (Int32 × Mem)} {r0 r1 r2 : Mem → Option Mem} {P0 P1 P2 : (Nat → Int32) → Prop} {vs : Nat → Int32} {p pl : Nat} {mC mR : Mem} (X : RX Z o i A B) (S0 : Rst Z o i n bt A B c0 r0 0 (fun _ => True) P0) (S1 : Rst Z o i n bt A B c1 r1 1 P0 P1) (S2 : Rst Z o i n bt A B c2 r2 2 P1 P2) (F1 : StF r1) (F2 : StF r2) (h : RS Z o i n bt A B vs 0 p pl mC mR) : (∃ mC' mR', chC (o + 1 + 2 * i) c0 c1 c2 mC = some (0, mC') ∧ chR i r0 r1 r2 mR = some mR' ∧ FlR mC' mR' ∧ TFC o A mC' ∧ TFR B mR') ∨ (∃ vs' p' pl' MC MR, chC (o + 1 + 2 * i) c0 c1 c2 mC = some (1, mI MC (o + 1 + 2 * i) 2 (zN (Z i + 1))) ∧ chR i r0 r1 r2 mR = some (mI MR 101 (8 + i) (zN (Z i + 1))) ∧ P2 vs' ∧ RS Z o i n bt A B vs' 3 p' pl' MC MR ∧ p ≤ p') := by
  have o7 := X.o7
  have hi5 := X.hi
  have FA : ∀ {vs c p pl mC mR}, RS Z o i n bt A B vs c p pl mC mR → TFC o A mC ∧ TFR B mR := by
    intro vs c p pl mC mR h
    refine ⟨TFC.of (fun cc j w1 w2 => h.fC cc j (by omega) (by omega)) h.fJ (by omega), fun cc j w1 w2 => h.fR cc j (fun z => w1 (by omega)) (fun z => w2 ?_)⟩
    obtain ⟨z1, z2, z3⟩ := z
    have e := hf_row i hi5 (cc - (102 + 3 * i)) (by omega)
    rw [show 102 + 3 * i + (cc - (102 + 3 * i)) = cc from by omega] at e
    omega
  have UP : ∀ m : Mem, TFR m (mI m 101 (8 + i) (m.1 101 (8 + i) + (1 : Int32))) := fun m => TFR.up (by omega) (by omega) (by show 8 ≤ 8 + i; omega)
  unfold chC chR
  rcases S0 vs p pl mC mR trivial h with ⟨mCa, mRa, a1, a2, a3, a4, a5⟩ | ⟨v0, pa, pla, mCa, mRa, a1, a2, a3, a4, a5⟩
  · obtain ⟨m1, x1, x2, x3, x4⟩ := F1 mRa a3.2.2
    have g1 := a3.q x2 x3
    obtain ⟨m2, y1, y2, y3, y4⟩ := F2 m1 g1.2.2
    have g2 := g1.q y2 y3
    rw [a1, b_some, if_pos rfl, a2, b_some, x1, b_some, y1, b_some]
    exact Or.inl ⟨_, _, rfl, rfl, g2.r (by omega), (FA h).1.tr a4, ((((FA h).2.tr a5).tr x4).tr y4).tr (UP _)⟩
  · rw [a1, b_some, if_neg z10, a2, b_some]
    rcases S1 _ pa pla mCa mRa a3 a4 with ⟨mCb, mRb, b1, b2, b3, b4, b5⟩ | ⟨v1, pb, plb, mCb, mRb, b1, b2, b3, b4, b5⟩
    · obtain ⟨m2, y1, y2, y3, y4⟩ := F2 mRb b3.2.2
      have g2 := b3.q y2 y3
      rw [b1, b_some, if_pos rfl, b2, b_some, y1, b_some]
      exact Or.inl ⟨_, _, rfl, rfl, g2.r (by omega), (FA a4).1.tr b4, (((FA a4).2.tr b5).tr y4).tr (UP _)⟩
    · rw [b1, b_some, if_neg z10, b2, b_some]
      rcases S2 _ pb plb mCb mRb b3 b4 with ⟨mCc, mRc, d1, d2, d3, d4, d5⟩ | ⟨v2, pc, plc, mCc, mRc, d1, d2, d3, d4, d5⟩
      · rw [d1, b_some, if_pos rfl, d2, b_some]
        exact Or.inl ⟨_, _, rfl, rfl, d3.r (by omega), (FA b4).1.tr d4, ((FA b4).2.tr d5).tr (UP _)⟩
      · rw [d1, b_some, if_neg z10, d2, b_some, (d4.s2 X hi5).2, zN_s]
        unfold fX9_close
        rw [b_some, if_neg z10]
        dsimp only
        rw [(d4.s2 X hi5).1, zN_s]
        exact Or.inr ⟨_, pc, plc, mCc, mRc, rfl, rfl, d3, d4, by omega⟩
