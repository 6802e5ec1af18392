/-! a law's line; every line; the lines of a text -/
theorem ll65_f {N : Nat} {x : Int32} {m : Mem} (f : ¬ m.1 99 30 = 0) : fX12_lawLine_65 N x m = some m := by
  unfold fX12_lawLine_65
  rw [if_neg f]
theorem ll30_f {N : Nat} {m : Mem} (f : ¬ m.1 99 30 = 0) : fX12_lawLine_30 N m = some m := by
  unfold fX12_lawLine_30
  rw [if_neg f, ll65_f f]
theorem rule_dec {kd v so va : Int32} (h : TkK kd v so va) : (∃ r, r < 3 ∧ kd = zN (8 + r)) ∨ ((kd - (8 : Int32) < 0 ∨ ¬ (kd - (8 : Int32) ≤ 2)) ∧ (so = 0 → va < 8 ∨ ¬ (va ≤ 10))) := by
  obtain ⟨m1, m2, m3⟩ := rul_n
  rcases h with ⟨h1, h2⟩ | ⟨w, w1, h1, h2, h3⟩ | ⟨h1, h2, h3⟩ | ⟨h1, h2, _⟩ | ⟨x', y', hx', h1, h2, h3⟩ | ⟨h1, h2⟩
  · exact Or.inr ⟨Or.inl (by rw [h1]; exact m1), fun z => absurd (h2.symm.trans z) (by decide)⟩
  · obtain ⟨r1, r2, r3⟩ := rul w (by omega)
    by_cases q : 8 ≤ w ∧ w ≤ 10
    · exact Or.inl ⟨w - 8, by omega, by rw [h1, show 8 + (w - 8) = w from by omega]⟩
    · refine Or.inr ⟨?_, fun _ => ?_⟩
      · rw [h1]
        by_cases y : w < 8
        · exact Or.inl (r1 y)
        · exact Or.inr (r3 (by omega))
      · rw [h3]
        by_cases y : w < 8
        · exact Or.inl (by rw [show (8 : Int32) = zN 8 from rfl, zN_lt (by omega) (by omega)]; exact y)
        · exact Or.inr (show ¬ (zN w ≤ (10 : Int32)) from zle (c := 10) (by omega) (by omega) (by omega))
  · exact Or.inr ⟨Or.inl (by rw [h1]; exact m3), fun z => absurd (h2.symm.trans z) (by decide)⟩
  · exact Or.inr ⟨Or.inr (by rw [h1]; decide), fun z => absurd (h2.symm.trans z) (by decide)⟩
  · obtain ⟨c1, c2, c3, c4⟩ := sg_bd _ hx'
    dsimp only at c1 c2
    obtain ⟨r1, r2, r3⟩ := rul x' (by omega)
    exact Or.inr ⟨Or.inr (by rw [h1]; exact r3 (by omega)), fun z => absurd (h2.symm.trans z) (by decide)⟩
  · exact Or.inr ⟨Or.inl (by rw [h1]; exact m2), fun z => absurd (h2.symm.trans z) (by decide)⟩
theorem law_line {N : Nat} {Z : Nat → Nat} {o n : Nat} {bt : Nat → Nat} {p pl s : Nat} {mC mR : Mem} (hN : 1000 ≤ N) (h : LI Z o n bt p pl s mC mR) (ek : mC.1 5 4 = zN 7) : LineR N o n bt p mC mR := by
  have o7 := h.o7
  obtain ⟨so, va⟩ := (h.tk.kk.wd (show 7 < 21 by omega)).mpr ek
  obtain ⟨s64, n6, n7, n35, n15⟩ := h.kn
  have TB : TkB n bt mC (mI mR 99 23 ((mR.1 99 23) ||| ((1 : Int32) <<< (zN 7 &&& 31)))) := h.tb.r (by omega)
  obtain ⟨MC, MR, p', pl', a1, a2, a3, a4, a5, a6, a7, a8, a9⟩ := tok_rel hN TB h.tk.nC (by rw [mI_n (by omega)]; exact h.tk.nR) h.pn
  have fl1 : MR.1 99 30 = 0 := by
    rw [a9 _ _ (by omega), mI_n (by omega)]
    exact h.fl
  have fC1 : TFC o mC MC := TFC.of (fun c j w1 w2 => a7 c j (by omega)) a8 (by omega)
  have fR1 : TFR mR MR := fun c j w1 w2 => by rw [a9 c j (by omega), mI_n (by omega)]
  have cE : fX8_readLine N o mC = (fX8_readLaw N (o + 11) mC).bind (fun q => fX8_readLine_151 N q.1 q.2) := by
    unfold fX8_readLine
    rw [if_neg (show ¬ (mC.1 5 4 = (0 : Int32)) from by rw [ek]; decide), if_neg (show ¬ (mC.1 5 4 = (1 : Int32)) from by rw [ek]; decide), if_neg (show ¬ (mC.1 5 4 = (2 : Int32)) from by rw [ek]; decide), if_neg (show ¬ (mC.1 5 4 = (3 : Int32)) from by rw [ek]; decide), if_neg (show ¬ (mC.1 5 4 = (4 : Int32)) from by rw [ek]; decide), if_neg (show ¬ (mC.1 5 4 = (5 : Int32)) from by rw [ek]; decide), if_neg (show ¬ (mC.1 5 4 = (6 : Int32)) from by rw [ek]; decide), if_pos (show mC.1 5 4 = (7 : Int32) from ek)]
  have rE : fX12_line N mR = (fX12_lawLine N MR).bind (fun q => fX12_line_464 N q) := by
    unfold fX12_line
    rw [if_pos so, va, if_pos (show zN 7 ≤ (7 : Int32) from by decide), isFull_n (by omega) (by omega), b_some, if_pos rfl, if_neg (show ¬ (zN 7 = (5 : Int32)) from by decide), if_neg (show ¬ (zN 7 = (6 : Int32)) from by decide)]
    unfold fX12_line_71
    rw [if_pos h.fl, a2, b_some, if_neg (show ¬ (zN 7 = (0 : Int32)) from by decide), if_neg (show ¬ (zN 7 = (1 : Int32)) from by decide), if_neg (show ¬ (zN 7 = (2 : Int32)) from by decide), if_neg (show ¬ (zN 7 = (3 : Int32)) from by decide), if_neg (show ¬ (zN 7 = (4 : Int32)) from by decide), if_neg (show ¬ (zN 7 = (5 : Int32)) from by decide), if_neg (show ¬ (zN 7 = (6 : Int32)) from by decide)]
  -- at fault with v behind the first word
  have BAD : ∀ v : Nat, 1 ≤ v ∧ v ≤ 5 → fX8_readLaw N (o + 11) mC = some (0, mI (mI MC 2 7 (zN v)) 2 8 (MC.1 5 5)) → fX12_lawLine N MR = some (mI (mI MR 99 30 (zN v)) 99 31 (MR.1 99 27)) → LineR N o n bt p mC mR := by
    intro v hv e1 e2
    have F := FlR.mk a3 hv
    refine Or.inl ⟨_, _, ?_, ?_, F, fC1.tr (TFC.fail (by omega)), fR1.tr TFR.fail⟩
    · rw [cE, e1, b_some, rl151_0]
    · rw [rE, e2, b_some, l464_f F.2.2]
  rcases rule_dec a3.kk with ⟨r, hr, er⟩ | ⟨q1, q2⟩
  · obtain ⟨so2, va2⟩ := (a3.kk.wd (show 8 + r < 21 by omega)).mpr er
    have e8 : zN (8 + r) - (8 : Int32) = zN r := by
      rw [show (8 : Int32) = zN 8 from rfl, zN_sub (by omega), show 8 + r - 8 = r from by omega]
    have B23 : MR.1 99 23 = ((mR.1 99 23) ||| ((1 : Int32) <<< (zN 7 &&& 31))) := by rw [a9 _ _ (by omega), mI_s ⟨rfl, rfl⟩]
    obtain ⟨f, t, x1, x2, x3, x4, x5⟩ := h.tl r hr
    have T16 : tbt (MR.1 99 23) (16 + r) = tbt (mR.1 99 23) (16 + r) := by rw [B23, tbt_on _ (by omega) (by omega) (by omega)]
    have G := tbt_get (MR.1 99 23) (show 16 + r < 19 by omega)
    have IT : fX3_isTold (o + 11) (zN r) MC = some (if f < t then 1 else 0) := by
      unfold fX3_isTold
      rw [if_neg (znn (by omega)), if_neg (show ¬ ((2 : Int32) < zN r) from zlt (a := 2) (by omega) (by omega) (by omega)), g_in (by omega) (by omega), g_in (by omega) (by omega), zN_cl (by omega), a7 _ _ (by omega), a7 _ _ (by omega), show mC.1 (o + 11 + 4) r = _ from x2, show mC.1 (o + 11 + 3) r = _ from x1]
      by_cases w : f < t
      · rw [if_pos w, if_neg (zle (by omega) (by omega) w)]
      · rw [if_neg w, if_pos (zle' (by omega) (by omega) (by omega))]
    have LL : fX12_lawLine N MR = (if tbt (MR.1 99 23) (16 + r) = true then some (mI (mI MR 99 30 (zN 3)) 99 31 (MR.1 99 27)) else fX12_lawLine_65 N (zN r) MR) := by
      unfold fX12_lawLine
      rw [if_pos so2, va2, if_neg (show ¬ (zN (8 + r) < (8 : Int32)) from zlt (c := 8) (by omega) (by omega) (by omega)), if_pos (show zN (8 + r) ≤ (10 : Int32) from zle' (c := 10) (by omega) (by omega) (by omega))]
      unfold fX12_lawLine_30
      rw [if_pos fl1, va2, e8, show (16 : Int32) + zN r = zN (16 + r) from zN_add 16 r]
      by_cases w : tbt (MR.1 99 23) (16 + r) = true
      · rw [if_pos (G.mpr w), if_pos w, show fX12_wrong (3 : Int32) MR = _ from wrong_ok (v := 3) fl1, b_some, ll65_f (FlR.mk a3 (v := 3) (by omega)).2.2]
      · rw [if_neg (fun z => w (G.mp z)), if_neg w]
    have RL : fX8_readLaw N (o + 11) mC = (if f < t then some (0, mI (mI MC 2 7 (zN 3)) 2 8 (MC.1 5 5)) else (fX10_advance N (mI (mI (mI (mI (mI MC 2 3 (0 : Int32)) 2 4 (0 : Int32)) 4 0 (0 : Int32)) 2 5 (1 : Int32)) 2 6 (1 : Int32))).bind (fun q11 => fX8_readLaw_89 N N (o + 11) (zN r) (zN s) (0 : Int32) q11)) := by
      unfold fX8_readLaw
      rw [a1, b_some, er, e8, if_neg (znn (by omega)), if_pos (show zN r ≤ (2 : Int32) from zle' (c := 2) (by omega) (by omega) (by omega)), IT, b_some, a7 (o + 11) 7 (by omega), n7]
      by_cases w : f < t
      · rw [if_pos w, if_pos w, if_neg z10, show fX8_fail (3 : Int32) MC = _ from fail_ok (v := 3), b_some, if_pos (Or.inl rfl)]
      · rw [if_neg w, if_neg w, if_pos rfl]
        rfl
    by_cases w : f < t
    · rw [if_pos w] at RL
      rw [if_pos (by rw [T16]; exact x5.mp w)] at LL
      exact BAD 3 (by omega) RL LL
    · rw [if_neg w] at RL
      rw [if_neg (fun z => w (x5.mpr (by rw [← T16]; exact z)))] at LL
      have TB2 : TkB n bt (mI (mI (mI (mI (mI MC 2 3 (0 : Int32)) 2 4 (0 : Int32)) 4 0 (0 : Int32)) 2 5 (1 : Int32)) 2 6 (1 : Int32)) (mI MR 99 23 ((MR.1 99 23) ||| ((1 : Int32) <<< (zN (16 + r) &&& 31)))) := TB.cong (fun c j w1 w2 w3 => by rw [mI_n (by omega), mI_n (by omega), mI_n (by omega), mI_n (by omega), mI_n (by omega), a7 _ _ (by omega)]) (fun c j w1 w2 w3 => by rw [mI_n (by omega), a9 _ _ (by omega)])
      obtain ⟨MD, MS, p2, pl2, d1, d2, d3, d4, d5, d6, d7, d8, d9⟩ := tok_rel hN TB2 (by rw [mI_n (by omega), mI_n (by omega), mI_n (by omega), mI_n (by omega), mI_n (by omega)]; exact a3.nC) (by rw [mI_n (by omega)]; exact a3.nR) a5
      have gC : ∀ c j, ¬ (2 ≤ c ∧ c ≤ 5) → MD.1 c j = mC.1 c j := fun c j w1 => by rw [d7 _ _ (by omega), mI_n (by omega), mI_n (by omega), mI_n (by omega), mI_n (by omega), mI_n (by omega), a7 _ _ (by omega)]
      have gR : ∀ c j, ¬ (c = 99 ∧ 23 ≤ j ∧ j ≤ 29 ∧ j ≠ 24 ∧ j ≠ 25) → MS.1 c j = mR.1 c j := fun c j w1 => by rw [d9 _ _ (by omega), mI_n (by omega), a9 _ _ (by omega), mI_n (by omega)]
      have g23 : (mI MS 117 (3 + r) (zN s)).1 99 23 = ((MR.1 99 23) ||| ((1 : Int32) <<< (zN (16 + r) &&& 31))) := by rw [mI_n (by omega), d9 _ _ (by omega), mI_s ⟨rfl, rfl⟩]
      have tq : ∀ j, j < 19 → j ≠ 7 → j ≠ 16 + r → tbt ((mI MS 117 (3 + r) (zN s)).1 99 23) j = tbt (mR.1 99 23) j := fun j w1 w2 w3 => by rw [g23, tbt_on _ (by omega) w1 w3, B23, tbt_on _ (by omega) w1 w2]
      have LL2 : fX12_lawLine N MR = (fExpr N (mI MS 117 (3 + r) (zN s))).bind (fun q11 => some (mI q11 118 (3 + r) (q11.1 101 15))) := by
        rw [LL]
        unfold fX12_lawLine_65
        rw [if_pos fl1, show (16 : Int32) + zN r = zN (16 + r) from zN_add 16 r, d2, b_some, fr7, b_some, show (3 : Int32) + zN r = zN (3 + r) from zN_add 3 r, g_in (by omega) (by omega), zN_cl (by omega), gR 101 15 (by omega), n15]
        congr 1
        funext q11
        rw [fr7, b_some, g_ii (by omega) (by omega)]
      have kd2 : MC.1 5 4 ≠ -1 := by
        rw [er]
        exact fun z => by
          rw [zN_m1 (by omega)] at z
          exact z
      have pp : p < p' := a6.resolve_left kd2
      have pq := d3.lp
      have LQ0 : LQ (o + 11) s [] [] 0 s s MD (mI MS 117 (3 + r) (zN s)) := by
        refine ⟨?_, ?_, trivial, ⟨by omega, ?_, ?_⟩, ⟨s64, ?_, ?_⟩, ⟨?_, ?_⟩, ⟨rfl, rfl⟩, fun v hv => absurd hv (by simp), fun j hj => absurd hj (by simp), fun j y1 y2 => absurd y2 (by omega), by omega, ⟨?_, ?_, ?_⟩⟩
        · rw [mI_n (by omega), gR _ _ (by omega)]
          exact h.fl
        · rw [d7 _ _ (by omega), mI_n (by omega), mI_n (by omega), mI_n (by omega), mI_n (by omega), mI_s ⟨rfl, rfl⟩]
          rfl
        · rw [d7 _ _ (by omega), mI_n (by omega), mI_n (by omega), mI_n (by omega), mI_s ⟨rfl, rfl⟩]
          rfl
        · rw [mI_n (by omega), gR _ _ (by omega)]
          exact h.op
        · rw [gC _ _ (by omega)]
          exact n6
        · rw [mI_n (by omega), gR _ _ (by omega)]
          exact n35
        · rw [gC _ _ (by omega)]
          exact n7
        · rw [mI_n (by omega), gR _ _ (by omega)]
          exact n15
        · rw [d7 _ _ (by omega), mI_n (by omega), mI_n (by omega), mI_n (by omega), mI_n (by omega), mI_n (by omega), a7 _ _ (by omega)]
          exact h.fz.1
        · rw [d7 _ _ (by omega), mI_n (by omega), mI_n (by omega), mI_n (by omega), mI_n (by omega), mI_n (by omega), a7 _ _ (by omega)]
          exact h.fz.2.1
        · rw [mI_n (by omega), gR _ _ (by omega)]
          exact h.fz.2.2
      have LT0 : LT n bt 0 p2 pl2 MD (mI MS 117 (3 + r) (zN s)) := by
        refine ⟨TB2.cong (fun c j w1 w2 w3 => d7 c j (by omega)) (fun c j w1 w2 w3 => by rw [mI_n (by omega), d9 c j (by omega)]), d3.r (fun _ _ _ => rfl) (fun j _ _ => mI_n (by omega)), d5, ?_⟩
        by_cases y : MD.1 5 4 = -1
        · exact Or.inl ⟨y, by omega⟩
        · have := d6.resolve_left y
          exact Or.inr ⟨y, by omega⟩
      obtain ⟨mR1, e1, r1⟩ := law_in (p0 := p) (x0 := 0) hN hr h.od s64 (fun q hq => by
          obtain ⟨f', t', y1, y2, y3, y4, y5⟩ := h.tl q hq
          exact ⟨f', t', y1, y2, y3, y4, fun ne => by rw [tq _ (by omega) (by omega) (by omega)]; exact y5⟩) (by rw [g23]; exact tbt_os _ (by omega)) (by rw [tq _ (by omega) (by omega) (by omega)]; exact h.t5) (by rw [tq _ (by omega) (by omega) (by omega)]; exact h.t6) h.ms LQ0 LT0 (by rw [d7 _ _ (by omega), mI_n (by omega), mI_s ⟨rfl, rfl⟩]) (by rw [d7 _ _ (by omega), mI_s ⟨rfl, rfl⟩]) (by rw [d7 _ _ (by omega), mI_n (by omega), mI_n (by omega), mI_s ⟨rfl, rfl⟩]) gC (d8.trans a8) (fun c j w1 w2 => by rw [mI_n (by omega), gR _ _ w1]) (mI_s ⟨rfl, rfl⟩) (show p ≤ p2 by omega)
      rw [d1, b_some] at RL
      rw [e1, b_some] at LL2
      rcases r1 with ⟨mC', y1, y2⟩ | ⟨p3, pl3, s3, M1, y1, y2, y3, y4, y5, y6, y7⟩
      · rcases y2 with ⟨y2, y3, y4⟩ | ⟨mR2, y2, y3, y4, y5⟩
        · have F := y2.r (c := 118) (k := 3 + r) (v := mR1.1 101 15) (by omega)
          refine Or.inl ⟨mC', _, ?_, ?_, F, y3, y4.tr (TFR.up (by omega) (by omega) (by show 3 ≤ 3 + r; omega))⟩
          · rw [cE, RL, y1, b_some, rl151_0]
          · rw [rE, LL2, b_some, l464_f F.2.2]
        · refine Or.inl ⟨mC', mR2, ?_, ?_, y3, y4, y5⟩
          · rw [cE, RL, y1, b_some, rl151_0]
          · rw [rE, LL2, b_some, y2]
      · exact LI.fin hN (by rw [cE, RL, y1, b_some]) (by rw [rE, LL2, b_some]) y2 y3 y4 (by rw [mI_n (by omega)]; exact y5) y6 y7
  · refine BAD 1 (by omega) ?_ ?_
    · have F27 : fX8_readLaw_27 N MC = some (0, mI (mI MC 2 7 (zN 1)) 2 8 (MC.1 5 5)) := by
        unfold fX8_readLaw_27
        rw [show fX8_fail (1 : Int32) MC = _ from fail_ok (v := 1), b_some, if_pos (Or.inl rfl)]
      unfold fX8_readLaw
      rw [a1, b_some]
      by_cases w : MC.1 5 4 - (8 : Int32) < 0
      · rw [if_pos w, F27]
      · rw [if_neg w, if_neg (q1.resolve_left w), F27]
    · have F25 : fX12_lawLine_25 N MR = some (mI (mI MR 99 30 (zN 1)) 99 31 (MR.1 99 27)) := by
        unfold fX12_lawLine_25
        rw [show fX12_wrong (1 : Int32) MR = _ from wrong_ok (v := 1) fl1, b_some, ll30_f (FlR.mk a3 (v := 1) (by omega)).2.2]
      unfold fX12_lawLine
      by_cases w : MR.1 99 28 = 0
      · rw [if_pos w]
        by_cases y : MR.1 99 29 < (8 : Int32)
        · rw [if_pos y, F25]
        · rw [if_neg y, if_neg ((q2 w).resolve_left y), F25]
      · rw [if_neg w, F25]
theorem line_ok {N : Nat} {Z : Nat → Nat} {o n : Nat} {bt : Nat → Nat} {p pl s : Nat} {mC mR : Mem} (hN : 1000 ≤ N) (h : LI Z o n bt p pl s mC mR) : LineR N o n bt p mC mR := by
  have o7 := h.o7
  have kk := h.tk.kk
  by_cases q : ∃ x, x < 8 ∧ mC.1 5 4 = zN x
  · obtain ⟨x, hx, ek⟩ := q
    have : x = 0 ∨ x = 1 ∨ x = 2 ∨ x = 3 ∨ x = 4 ∨ x = 5 ∨ x = 6 ∨ x = 7 := by omega
    rcases this with rfl | rfl | rfl | rfl | rfl | rfl | rfl | rfl
    · exact kni_line hN h ek
    · exact tub_line hN h ek
    · exact sit_line hN h ek
    · exact can_line hN h ek
    · exact pip_line hN h ek
    · exact fli_line hN h ek
    · exact see_line hN h ek
    · exact law_line hN h ek
  · have F := FlR.mk h.tk (v := 1) (by omega)
    have ne : ∀ x, x < 8 → ¬ (mC.1 5 4 = zN x) := fun x hx z => q ⟨x, hx, z⟩
    refine Or.inl ⟨_, _, ?_, ?_, F, TFC.fail (by omega), TFR.fail⟩
    · unfold fX8_readLine
      rw [if_neg (show ¬ (mC.1 5 4 = (0 : Int32)) from ne 0 (by omega)), if_neg (show ¬ (mC.1 5 4 = (1 : Int32)) from ne 1 (by omega)), if_neg (show ¬ (mC.1 5 4 = (2 : Int32)) from ne 2 (by omega)), if_neg (show ¬ (mC.1 5 4 = (3 : Int32)) from ne 3 (by omega)), if_neg (show ¬ (mC.1 5 4 = (4 : Int32)) from ne 4 (by omega)), if_neg (show ¬ (mC.1 5 4 = (5 : Int32)) from ne 5 (by omega)), if_neg (show ¬ (mC.1 5 4 = (6 : Int32)) from ne 6 (by omega)), if_neg (show ¬ (mC.1 5 4 = (7 : Int32)) from ne 7 (by omega)), show fX8_fail (1 : Int32) mC = _ from fail_ok (v := 1), b_some, if_pos (Or.inl rfl)]
    · have F16 : fX12_line_16 N mR = some (mI (mI mR 99 30 (zN 1)) 99 31 (mR.1 99 27)) := by
        unfold fX12_line_16
        rw [show fX12_wrong (1 : Int32) mR = _ from wrong_ok (v := 1) h.fl, b_some]
      unfold fX12_line
      by_cases w : mR.1 99 28 = 0
      · rw [if_pos w]
        have nl : ¬ (mR.1 99 29 ≤ (7 : Int32)) := by
          rcases kk with ⟨z1, z2⟩ | ⟨w', w1, z1, z2, z3⟩ | ⟨z1, z2, z3⟩ | ⟨z1, z2, z3⟩ | ⟨x', y', hx', z1, z2, z3⟩ | ⟨z1, z2⟩
          · exact absurd (z2.symm.trans w) (by decide)
          · rw [z3]
            by_cases y : w' < 8
            · exact absurd z1 (ne w' y)
            · exact zle (c := 7) (by omega) (by omega) (by omega)
          · exact absurd (z2.symm.trans w) (by decide)
          · exact absurd (z2.symm.trans w) (by decide)
          · exact absurd (z2.symm.trans w) (by decide)
          · exact absurd (z2.symm.trans w) (by decide)
        rw [if_neg nl, F16]
      · rw [if_neg w, F16]
theorem LI.l10 {Z : Nat → Nat} {o n : Nat} {bt : Nat → Nat} {p pl s : Nat} {mC mR : Mem} (h : LI Z o n bt p pl s mC mR) (v : Int32) : LI Z o n bt p pl s (mI mC o 10 v) mR := by
  have o7 := h.o7
  refine ⟨h.od.flsd (fun cc j w1 w2 w3 => mI_n (by omega)) (fun _ _ _ _ _ => rfl) (by rw [mI_n (by omega)]; exact h.od.fl) (by rw [mI_n (by omega)]; exact h.od.sd), h.tb.cong (fun c j w1 w2 w3 => mI_n (by omega)) (fun _ _ _ _ _ => rfl), h.tk.r (fun j _ _ => mI_n (by omega)) (fun _ _ _ => rfl), h.pn, h.fl, ?_, ?_, ?_, fun r hr => ?_, h.op, ?_, fun i hi => ?_⟩
  · rw [mI_n (by omega), mI_n (by omega)]
    exact h.fz
  · rw [mI_n (by omega)]
    exact h.t5
  · rw [mI_n (by omega)]
    exact h.t6
  · rw [mI_n (by omega), mI_n (by omega)]
    exact h.tl r hr
  · rw [mI_n (by omega), mI_n (by omega)]
    exact h.kn
  · rw [mI_n (by omega)]
    exact h.ms i hi
theorem lines_ok {N : Nat} {o n : Nat} {bt : Nat → Nat} (hN : 1000 ≤ N) : ∀ (rem i : Nat) (Z : Nat → Nat) (p pl s nC nR : Nat) (mC mR : Mem), n - i ≤ rem → rem < nC → rem + 1 < nR → LI Z o n bt p pl s mC mR → mC.1 o 10 = mR.1 99 24 → (mC.1 5 4 = -1 ∨ i < p) → ∃ mR', (∀ k, fX12_text_127 N k nR mR = k mR') ∧ ((∃ mC', fX8_readAll_24 N nC (zN n) o (zN i) mC = some (0, mC') ∧ FlR mC' mR' ∧ TFC o mC mC' ∧ TFR mR mR') ∨ (∃ Z' p' pl' s' mC', fX8_readAll_24 N nC (zN n) o (zN i) mC = some (1, mC') ∧ LI Z' o n bt p' pl' s' mC' mR' ∧ mC'.1 o 10 = mR'.1 99 24 ∧ TFC o mC mC' ∧ TFR mR mR')) := by
  intro rem
  induction rem with
  | zero =>
    intro i Z p pl s nC nR mC mR hrem h1 h2 h hl hk
    have n7 := h.tb.hn
    have pn := h.pn
    obtain ⟨nC', rfl, _⟩ := fuel h1
    obtain ⟨nR', rfl, _⟩ := fuel (show 0 < nR by omega)
    have e1 : mC.1 5 4 = -1 := hk.resolve_right (by omega)
    have e4 := h.tk.kk.nm.2.2.mpr e1
    refine ⟨mR, fun k => by rw [fX12_text_127, if_pos h.fl, if_pos e4], Or.inr ⟨Z, p, pl, s, mC, ?_, h, hl, TFC.rf, TFR.rf⟩⟩
    rw [fX8_readAll_24, if_pos e1]
    split <;> rfl
  | succ rem ih =>
    intro i Z p pl s nC nR mC mR hrem h1 h2 h hl hk
    have n7 := h.tb.hn
    have pn := h.pn
    have o7 := h.o7
    obtain ⟨nC', rfl, h1⟩ := fuel h1
    obtain ⟨nR', rfl, _⟩ := fuel (show 0 < nR by omega)
    by_cases e1 : mC.1 5 4 = -1
    · have e4 := h.tk.kk.nm.2.2.mpr e1
      refine ⟨mR, fun k => by rw [fX12_text_127, if_pos h.fl, if_pos e4], Or.inr ⟨Z, p, pl, s, mC, ?_, h, hl, TFC.rf, TFR.rf⟩⟩
      rw [fX8_readAll_24, if_pos e1]
      split <;> rfl
    · have ip := hk.resolve_left e1
      have e4 : ¬ (mR.1 99 28 = 4) := fun z => e1 (h.tk.kk.nm.2.2.mp z)
      have RA : fX8_readAll_24 N (nC' + 1) (zN n) o (zN i) mC = (fX8_readLine N o mC).bind (fun q7 => if q7.1 = 0 then (some ((0 : Int32), q7.2)) else (fX8_readAll_24 N nC' (zN n) o (zN (i + 1)) (mI q7.2 o 10 ((q7.2.1 o 10) + (1 : Int32))))) := by
        rw [fX8_readAll_24, if_neg (zle (by omega) (by omega) (by omega)), if_neg e1, zN_s]
      rw [RA]
      rcases line_ok hN h with ⟨mC', mR', a1, a2, a3, a4, a5⟩ | ⟨Z', p', pl', s', mC', mR', a1, a2, a3, a4, a5, a6, a7, a8, a9⟩
      · obtain ⟨nR'', rfl, _⟩ := fuel (show 0 < nR' by omega)
        refine ⟨mR', fun k => by rw [fX12_text_127, if_pos h.fl, if_neg e4, a2, b_some, fX12_text_127, if_neg a3.2.2], Or.inl ⟨mC', ?_, a3, a4, a5⟩⟩
        rw [a1, b_some, if_pos rfl]
      · obtain ⟨mR2, b1, b2⟩ := ih (i + 1) Z' p' pl' s' nC' nR' (mI mC' o 10 (mC'.1 o 10 + (1 : Int32))) mR' (by omega) (by omega) (by omega) (a3.l10 _) (by rw [mI_s ⟨rfl, rfl⟩, a4, a5, hl]) (by
          rw [mI_n (by omega)]
          exact a7.imp id (fun z => by omega))
        refine ⟨mR2, fun k => by rw [fX12_text_127, if_pos h.fl, if_neg e4, a2, b_some, b1], ?_⟩
        rw [a1, b_some, if_neg z10]
        have U : TFC o mC' (mI mC' o 10 (mC'.1 o 10 + (1 : Int32))) := TFC.of (fun c j w1 w2 => mI_n (by omega)) rfl (by omega)
        rcases b2 with ⟨mC2, c1, c2, c3, c4⟩ | ⟨Z2, p2, pl2, s2, mC2, c1, c2, c3, c4, c5⟩
        · exact Or.inl ⟨mC2, c1, c2, (a8.tr U).tr c3, a9.tr c4⟩
        · exact Or.inr ⟨Z2, p2, pl2, s2, mC2, c1, c2, c3, (a8.tr U).tr c4, a9.tr c5⟩
