/-! the lines flinch and seed -/
theorem OrdR.flsd {Z : Nat → Nat} {o : Nat} {mC mR mC' mR' : Mem} (h : OrdR Z o mC mR) (hC : ∀ cc j, o ≤ cc → cc < o + 16 → ¬ (cc = o ∧ 6 ≤ j ∧ j ≤ 10) → mC'.1 cc j = mC.1 cc j) (hR : ∀ cc k, 101 ≤ cc → cc ≤ 120 → ¬ (cc = 101 ∧ (k = 5 ∨ k = 6)) → mR'.1 cc k = mR.1 cc k) (fl : mC'.1 o 6 = mR'.1 101 5 ∧ Bd (mR'.1 101 5) 0 100) (sd : mC'.1 o 8 = mR'.1 101 6 ∧ Bd (mR'.1 101 6) 0 99999) : OrdR Z o mC' mR' := by
  refine ⟨h.ho, h.zb, fun i hi => ?_, fun i hi => ?_, fun i k c hi hk hc => ?_, fun k hk => ?_, fun k hk => ?_, fun k hk => ?_, fun k hk => ?_, fun k hk => ?_, fl, sd, fun r hr => ?_, ?_⟩
  · rw [hC _ _ (by omega) (by omega) (by omega)]
    exact h.sC i hi
  · rw [hR _ _ (by omega) (by omega) (by omega)]
    exact h.sR i hi
  · rw [hC _ _ (by omega) (by omega) (by omega), hR _ _ (by omega) (by omega) (by omega)]
    exact h.rw i k c hi hk hc
  · rw [hR _ _ (by omega) (by omega) (by omega), hR _ _ (by omega) (by omega) (by omega)]
    exact h.kb k hk
  · rw [hR _ _ (by omega) (by omega) (by omega), hR _ _ (by omega) (by omega) (by omega)]
    exact h.tl k hk
  · rw [hR _ _ (by omega) (by omega) (by omega), hR _ _ (by omega) (by omega) (by omega)]
    exact h.st k hk
  · rw [hR _ _ (by omega) (by omega) (by omega), hR _ _ (by omega) (by omega) (by omega)]
    exact h.ca k hk
  · rw [hR _ _ (by omega) (by omega) (by omega), hR _ _ (by omega) (by omega) (by omega), hR _ _ (by omega) (by omega) (by omega)]
    exact h.pi k hk
  · rw [hC _ _ (by omega) (by omega) (by omega), hC _ _ (by omega) (by omega) (by omega), hR _ _ (by omega) (by omega) (by omega), hR _ _ (by omega) (by omega) (by omega)]
    obtain ⟨f, t, a1, a2, a3, a4, a5, a6, a7⟩ := h.lw r hr
    exact ⟨f, t, a1, a2, a3, a4, a5, a6, fun w => (a7 w).cong4 a2 (fun k => ⟨hC _ _ (by omega) (by omega) (by omega), hC _ _ (by omega) (by omega) (by omega)⟩) (fun k _ => ⟨hR _ _ (by omega) (by omega) (by omega), hR _ _ (by omega) (by omega) (by omega)⟩)⟩
  · rw [hC _ _ (by omega) (by omega) (by omega), hR _ _ (by omega) (by omega) (by omega)]
    exact h.kn
theorem fs_ok {N : Nat} {Z : Nat → Nat} {o n : Nat} {bt : Nat → Nat} {p pl s : Nat} {mC mR : Mem} {w u g hi : Nat} (hN : 1000 ≤ N) (hw : (w = 5 ∧ u = 7 ∧ g = 6 ∧ hi = 100) ∨ (w = 6 ∧ u = 9 ∧ g = 8 ∧ hi = 99999)) (h : LI Z o n bt p pl s mC mR)
    (cE : fX8_readLine N o mC = (if (mC.1 o u) = 0 then ((fX10_advance N mC).bind (fun q2 => (fX8_isNumber (zN 0) (zN hi) q2).bind (fun q4 => if q4.1 = 0 then (some ((0 : Int32), q4.2)) else ((fX10_advance N (mI (mI q4.2 o u (1 : Int32)) o g ((mI q4.2 o u (1 : Int32)).1 5 6))).bind (fun q7 => some ((1 : Int32), q7)))))) else ((fX8_fail (3 : Int32) mC).bind (fun q9 => if q9.1 = 0 ∨ q9.1 = 1 then (some (q9.1, q9.2)) else none))).bind (fun q => fX8_readLine_151 N q.1 q.2))
    (rL : fX12_line N mR = (if (((mR.1 99 23) >>> (zN w &&& 31)) &&& (1 : Int32)) = (1 : Int32) then ((fX12_wrong (3 : Int32) mR).bind (fun q108 => fX12_line_71 N (zN w) q108)) else (fX12_line_71 N (zN w) mR)))
    (rE : ∀ M : Mem, fX12_token N (mI mR 99 23 ((mR.1 99 23) ||| ((1 : Int32) <<< (zN w &&& 31)))) = some M → fX12_line_71 N (zN w) mR = (fX12_numeral N (zN 0) (zN hi) M).bind (fun q => fX12_line_464 N (mI q.2 101 (8 + w) q.1)))
    (tw : (mC.1 o u = 0 ∧ tbt (mR.1 99 23) w = false) ∨ (mC.1 o u = 1 ∧ tbt (mR.1 99 23) w = true)) : LineR N o n bt p mC mR := by
  have o7 := h.o7
  have w19 : w < 19 := by omega
  have G := tbt_get (mR.1 99 23) w19
  rcases tw with ⟨t1, t2⟩ | ⟨t1, t2⟩
  · rw [if_neg (fun z => by rw [G.mp z] at t2; exact absurd t2 (by decide))] at rL
    have TB : TkB n bt mC (mI mR 99 23 ((mR.1 99 23) ||| ((1 : Int32) <<< (zN w &&& 31)))) := h.tb.r (by omega)
    obtain ⟨MC, MR, p', pl', a1, a2, a3, a4, a5, a6, a7, a8, a9⟩ := tok_rel hN TB h.tk.nC (by rw [mI_n (by omega)]; exact h.tk.nR) h.pn
    have RE := rE MR a2
    rw [if_pos t1, a1, b_some] at cE
    have fl1 : MR.1 99 30 = 0 := by
      rw [a9 _ _ (by omega), mI_n (by omega)]
      exact h.fl
    have fC1 : TFC o mC MC := TFC.of (fun c j w1 w2 => a7 c j (by omega)) a8 (by omega)
    have fR1 : TFR mR MR := fun c j w1 w2 => by rw [a9 c j (by omega), mI_n (by omega)]
    rcases isnum_rel a3 fl1 (show 0 ≤ hi by omega) (show hi ≤ 99999 by omega) with ⟨v, v1, v2, e1, e2⟩ | ⟨a, v1, v2, v3, e1, e2⟩
    · have F := (FlR.mk a3 ⟨v1, v2⟩).r (c := 101) (k := 8 + w) (v := zN 0) (by omega)
      refine Or.inl ⟨_, _, ?_, ?_, F, fC1.tr (TFC.fail (by omega)), (fR1.tr TFR.fail).tr (TFR.up (by omega) (by omega) (by show 8 ≤ 8 + w; omega))⟩
      · rw [cE, e1, b_some, if_pos rfl, b_some, rl151_0]
      · rw [rL, RE, e2, b_some, l464_f F.2.2]
    · have TB2 : TkB n bt (mI (mI MC o u (1 : Int32)) o g (zN a)) MR := TB.cong (fun c j w1 w2 w3 => by rw [mI_n (by omega), mI_n (by omega), a7 c j (by omega)]) (fun c j w1 w2 w3 => a9 c j (by omega))
      obtain ⟨MD, MS, p2, pl2, d1, d2, d3, d4, d5, d6, d7, d8, d9⟩ := tok_rel hN TB2 (by rw [mI_n (by omega), mI_n (by omega)]; exact a3.nC) a3.nR a5
      have gC : ∀ cc j, ¬ (cc = 5 ∧ 3 ≤ j ∧ j ≤ 6) → ¬ (cc = o ∧ (j = u ∨ j = g)) → MD.1 cc j = mC.1 cc j := fun cc j w1 w2 => by rw [d7 cc j w1, mI_n (by omega), mI_n (by omega), a7 cc j w1]
      have gR : ∀ cc j, ¬ (cc = 99 ∧ 26 ≤ j ∧ j ≤ 29) → ¬ (cc = 99 ∧ j = 23) → ¬ (cc = 101 ∧ j = 8 + w) → (mI MS 101 (8 + w) (zN a)).1 cc j = mR.1 cc j := fun cc j w1 w2 w3 => by rw [mI_n (by omega), d9 cc j w1, a9 cc j w1, mI_n (by omega)]
      have g23 : (mI MS 101 (8 + w) (zN a)).1 99 23 = ((mR.1 99 23) ||| ((1 : Int32) <<< (zN w &&& 31))) := by rw [mI_n (by omega), d9 _ _ (by omega), a9 _ _ (by omega), mI_s ⟨rfl, rfl⟩]
      have ggR : ∀ cc k, 101 ≤ cc → cc ≤ 120 → ¬ (cc = 101 ∧ k = w) → (hfM (mI MS 101 (8 + w) (zN a))).1 cc k = (hfM mR).1 cc k := by
        intro cc k w1 w2 w3
        rw [hfM_at w1 w2, hfM_at w1 w2, gR _ _ (by omega) (by omega) (fun z => w3 ?_)]
        obtain ⟨z1, z2⟩ := z
        rw [z1, show hf 101 = 8 from rfl] at z2
        exact ⟨z1, by omega⟩
      have hw8 : (hfM (mI MS 101 (8 + w) (zN a))).1 101 w = zN a := by rw [hfM_at (by omega) (by omega), show hf 101 = 8 from rfl, mI_s ⟨rfl, rfl⟩]
      have gu : MD.1 o u = 1 := by rw [d7 _ _ (by omega), mI_n (by omega), mI_s ⟨rfl, rfl⟩]
      have gg : MD.1 o g = zN a := by rw [d7 _ _ (by omega), mI_s ⟨rfl, rfl⟩]
      refine LI.fin (Z' := Z) (s1 := s) hN (M1 := MD) (R1 := mI MS 101 (8 + w) (zN a)) (by rw [cE, e1, b_some, if_neg z10]; dsimp only; rw [show (mI MC o u (1 : Int32)).1 5 6 = zN a from by rw [mI_n (by omega)]; exact v3, d1, b_some, b_some]) (by rw [rL, RE, e2, d2, b_some, b_some]) ⟨?_, ?_, d3.r (fun _ _ _ => rfl) (fun j _ _ => mI_n (by omega)), d5, ?_, ?_, ?_, ?_, fun r hr => ?_, ?_, ?_, fun i' hi' => ?_⟩ (show p ≤ p2 by have := a3.lp; have := d3.lp; omega) (gC _ _ (by omega) (by omega)) (gR _ _ (by omega) (by omega) (by omega)) (TFC.of (fun c j w1 w2 => gC c j (by omega) (by omega)) (d8.trans a8) (by omega)) (fun c j w1 w2 => gR c j (by omega) (by omega) (fun z => w2 ?_))
      · rcases hw with ⟨rfl, rfl, rfl, rfl⟩ | ⟨rfl, rfl, rfl, rfl⟩
        · refine h.od.flsd (fun cc j w1 w2 w3 => gC _ _ (by omega) (by omega)) (fun cc k w1 w2 w3 => ggR _ _ w1 w2 (by omega)) ⟨by rw [gg, hw8], ?_⟩ ?_
          · rw [hw8]
            exact ⟨a, by omega, v2, rfl⟩
          · rw [gC _ _ (by omega) (by omega), ggR _ _ (by omega) (by omega) (by omega)]
            exact h.od.sd
        · refine h.od.flsd (fun cc j w1 w2 w3 => gC _ _ (by omega) (by omega)) (fun cc k w1 w2 w3 => ggR _ _ w1 w2 (by omega)) ?_ ⟨by rw [gg, hw8], ?_⟩
          · rw [gC _ _ (by omega) (by omega), ggR _ _ (by omega) (by omega) (by omega)]
            exact h.od.fl
          · rw [hw8]
            exact ⟨a, by omega, v2, rfl⟩
      · exact TB2.cong (fun c j w1 w2 w3 => d7 c j (by omega)) (fun c j w1 w2 w3 => by rw [mI_n (by omega), d9 c j (by omega)])
      · rw [gR _ _ (by omega) (by omega) (by omega)]
        exact h.fl
      · rw [gC _ _ (by omega) (by omega), gC _ _ (by omega) (by omega), gR _ _ (by omega) (by omega) (by omega)]
        exact h.fz
      · rw [g23]
        rcases hw with ⟨rfl, rfl, rfl, rfl⟩ | ⟨rfl, rfl, rfl, rfl⟩
        · exact Or.inr ⟨gu, tbt_os _ (by omega)⟩
        · rw [gC _ _ (by omega) (by omega), tbt_on _ (by omega) (by omega) (by omega)]
          exact h.t5
      · rw [g23]
        rcases hw with ⟨rfl, rfl, rfl, rfl⟩ | ⟨rfl, rfl, rfl, rfl⟩
        · rw [gC _ _ (by omega) (by omega), tbt_on _ (by omega) (by omega) (by omega)]
          exact h.t6
        · exact Or.inr ⟨gu, tbt_os _ (by omega)⟩
      · rw [gC _ _ (by omega) (by omega), gC _ _ (by omega) (by omega), g23, tbt_on _ (by omega) (by omega) (by omega)]
        exact h.tl r hr
      · rw [gR _ _ (by omega) (by omega) (by omega)]
        exact h.op
      · rw [gC _ _ (by omega) (by omega), gC _ _ (by omega) (by omega), gR _ _ (by omega) (by omega) (by omega), gR _ _ (by omega) (by omega) (by omega)]
        exact h.kn
      · rw [gC _ _ (by omega) (by omega)]
        exact h.ms i' hi'
      · rw [z.1, z.2, show hf 101 = 8 from rfl]
        omega
  · have F := FlR.mk h.tk (v := 3) (by omega)
    refine Or.inl ⟨_, _, ?_, ?_, F, TFC.fail (by omega), TFR.fail⟩
    · rw [cE, if_neg (by rw [t1]; exact z10), show fX8_fail (3 : Int32) mC = _ from fail_ok (v := 3), b_some, if_pos (Or.inl rfl), b_some, rl151_0]
    · rw [rL, if_pos (G.mpr t2), show fX12_wrong (3 : Int32) mR = _ from wrong_ok (v := 3) h.fl, b_some, l71_f F.2.2]
theorem isFull_n {w : Nat} (h : 5 ≤ w) (h2 : w < 8) (m : Mem) : fX12_isFull (zN w) m = some 0 := by
  unfold fX12_isFull
  rw [if_neg (show ¬ (zN w = (0 : Int32)) from zne (c := 0) (by omega) (by omega) (by omega)), if_neg (show ¬ (zN w = (1 : Int32)) from zne (c := 1) (by omega) (by omega) (by omega)), if_neg (show ¬ (zN w = (2 : Int32)) from zne (c := 2) (by omega) (by omega) (by omega)), if_neg (show ¬ (zN w = (3 : Int32)) from zne (c := 3) (by omega) (by omega) (by omega)), if_neg (show ¬ (zN w = (4 : Int32)) from zne (c := 4) (by omega) (by omega) (by omega))]
theorem fli_line {N : Nat} {Z : Nat → Nat} {o n : Nat} {bt : Nat → Nat} {p pl s : Nat} {mC mR : Mem} (hN : 1000 ≤ N) (h : LI Z o n bt p pl s mC mR) (ek : mC.1 5 4 = zN 5) : LineR N o n bt p mC mR := by
  obtain ⟨so, va⟩ := (h.tk.kk.wd (show 5 < 21 by omega)).mpr ek
  refine fs_ok (w := 5) (u := 7) (g := 6) (hi := 100) hN (Or.inl ⟨rfl, rfl, rfl, rfl⟩) h ?_ ?_ ?_ h.t5
  · unfold fX8_readLine
    rw [if_neg (show ¬ (mC.1 5 4 = (0 : Int32)) from by rw [ek]; decide), if_neg (show ¬ (mC.1 5 4 = (1 : Int32)) from by rw [ek]; decide), if_neg (show ¬ (mC.1 5 4 = (2 : Int32)) from by rw [ek]; decide), if_neg (show ¬ (mC.1 5 4 = (3 : Int32)) from by rw [ek]; decide), if_neg (show ¬ (mC.1 5 4 = (4 : Int32)) from by rw [ek]; decide), if_pos (show mC.1 5 4 = (5 : Int32) from ek)]
    rfl
  · unfold fX12_line
    rw [if_pos so, va, if_pos (show zN 5 ≤ (7 : Int32) from by decide), isFull_n (by omega) (by omega), b_some, if_pos rfl, if_pos (show zN 5 = (5 : Int32) from rfl)]
    rfl
  · intro M tok
    have rd : ∀ (x : Int32) (m : Mem), fX12_reads (5 : Int32) x m = some (mI m 101 13 x) := fun x m => rd_ok (i := 5) (by omega) x m
    unfold fX12_line_71
    rw [if_pos h.fl, tok, b_some, if_neg (show ¬ (zN 5 = (0 : Int32)) from by decide), if_neg (show ¬ (zN 5 = (1 : Int32)) from by decide), if_neg (show ¬ (zN 5 = (2 : Int32)) from by decide), if_neg (show ¬ (zN 5 = (3 : Int32)) from by decide), if_neg (show ¬ (zN 5 = (4 : Int32)) from by decide), if_pos (show zN 5 = (5 : Int32) from rfl)]
    simp only [rd, b_some]
    rfl
theorem see_line {N : Nat} {Z : Nat → Nat} {o n : Nat} {bt : Nat → Nat} {p pl s : Nat} {mC mR : Mem} (hN : 1000 ≤ N) (h : LI Z o n bt p pl s mC mR) (ek : mC.1 5 4 = zN 6) : LineR N o n bt p mC mR := by
  obtain ⟨so, va⟩ := (h.tk.kk.wd (show 6 < 21 by omega)).mpr ek
  refine fs_ok (w := 6) (u := 9) (g := 8) (hi := 99999) hN (Or.inr ⟨rfl, rfl, rfl, rfl⟩) h ?_ ?_ ?_ h.t6
  · unfold fX8_readLine
    rw [if_neg (show ¬ (mC.1 5 4 = (0 : Int32)) from by rw [ek]; decide), if_neg (show ¬ (mC.1 5 4 = (1 : Int32)) from by rw [ek]; decide), if_neg (show ¬ (mC.1 5 4 = (2 : Int32)) from by rw [ek]; decide), if_neg (show ¬ (mC.1 5 4 = (3 : Int32)) from by rw [ek]; decide), if_neg (show ¬ (mC.1 5 4 = (4 : Int32)) from by rw [ek]; decide), if_neg (show ¬ (mC.1 5 4 = (5 : Int32)) from by rw [ek]; decide), if_pos (show mC.1 5 4 = (6 : Int32) from ek)]
    rfl
  · unfold fX12_line
    rw [if_pos so, va, if_pos (show zN 6 ≤ (7 : Int32) from by decide), isFull_n (by omega) (by omega), b_some, if_pos rfl, if_neg (show ¬ (zN 6 = (5 : Int32)) from by decide), if_pos (show zN 6 = (6 : Int32) from rfl)]
    rfl
  · intro M tok
    have rd : ∀ (x : Int32) (m : Mem), fX12_reads (6 : Int32) x m = some (mI m 101 14 x) := fun x m => rd_ok (i := 6) (by omega) x m
    unfold fX12_line_71
    rw [if_pos h.fl, tok, b_some, if_neg (show ¬ (zN 6 = (0 : Int32)) from by decide), if_neg (show ¬ (zN 6 = (1 : Int32)) from by decide), if_neg (show ¬ (zN 6 = (2 : Int32)) from by decide), if_neg (show ¬ (zN 6 = (3 : Int32)) from by decide), if_neg (show ¬ (zN 6 = (4 : Int32)) from by decide), if_neg (show ¬ (zN 6 = (5 : Int32)) from by decide), if_pos (show zN 6 = (6 : Int32) from rfl)]
    simp only [rd, b_some]
    rfl
