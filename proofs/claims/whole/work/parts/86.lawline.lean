/-! the line of a law -/
theorem opc_opT : ∀ x, x < 35 → isOp x = true → x ≠ 13 → (x, opc x) ∈ opT := by
  intro x h h1 h2
  have h1 : x = 11 ∨ x = 12 ∨ x = 13 ∨ (25 ≤ x ∧ x ≤ 34) := of_decide_eq_true h1
  have : x = 11 ∨ x = 12 ∨ x = 25 ∨ x = 26 ∨ x = 27 ∨ x = 28 ∨ x = 29 ∨ x = 30 ∨ x = 31 ∨ x = 32 ∨ x = 33 ∨ x = 34 := by omega
  rcases this with rfl | rfl | rfl | rfl | rfl | rfl | rfl | rfl | rfl | rfl | rfl | rfl <;> decide
theorem opc_b : ∀ x, x < 35 → opc x < 300 := by decide
theorem knot_of {sg nu so va : Int32} {a b : Nat} (h : CM sg nu so va) (r : RK so va a b) : Knot sg nu so va a b := by
  have n10 : ¬ (zN 1 = zN 0) := by decide
  have n12 : ¬ (zN 1 = zN 2) := by decide
  have n02 : ¬ (zN 0 = zN 2) := by decide
  rcases h with ⟨j, j1, j2, j3, j4⟩ | ⟨v, j1, j2, j3, j4, j5⟩ | ⟨x, j1, j2, j3, j4⟩
  · rcases r with ⟨r1, r2⟩ | ⟨r1, r2⟩ | ⟨r1, r2, r3, r4⟩ | ⟨r1, r2, r3, r4⟩
    · exact Or.inl ⟨j, j1, j2, j3, j4, r2⟩
    · exact absurd (j3.symm.trans r1) n10
    · exact absurd (j3.symm.trans r1) n12
    · exact absurd (j3.symm.trans r1) n12
  · rcases r with ⟨r1, r2⟩ | ⟨r1, r2⟩ | ⟨r1, r2, r3, r4⟩ | ⟨r1, r2, r3, r4⟩
    · exact absurd (r1.symm.trans j4) n10
    · exact Or.inr (Or.inl ⟨v, j1, j2, j3, j4, j5, r2⟩)
    · exact absurd (j4.symm.trans r1) n02
    · exact absurd (j4.symm.trans r1) n02
  · have x35 := (isOp_lt j1).1
    have ob := opc_b x x35
    rcases r with ⟨r1, r2⟩ | ⟨r1, r2⟩ | ⟨r1, r2, r3, r4⟩ | ⟨r1, r2, r3, r4⟩
    · exact absurd (r1.symm.trans j3) n12
    · exact absurd (r1.symm.trans j3) n02
    · have e : x = 13 := by
        by_cases w : x = 13
        · exact w
        · have := (opc_ok x x35 j1 w).1
          rw [j4, zN_eq (by omega) (by omega)] at r2
          exact absurd r2 this
      rw [e] at j2 j4
      exact Or.inr (Or.inr (Or.inl ⟨j2, j3, j4, r3, r4⟩))
    · have e : x ≠ 13 := fun w => r2 (by rw [j4, w]; rfl)
      exact Or.inr (Or.inr (Or.inr ⟨x, opc x, opc_opT x x35 j1 e, j2, j3, j4, r3, r4⟩))
theorem rul : ∀ x, x < 35 → (x < 8 → zN x - (8 : Int32) < 0) ∧ (8 ≤ x → ¬ (zN x - (8 : Int32) < 0)) ∧ (11 ≤ x → ¬ (zN x - (8 : Int32) ≤ 2)) := by decide
theorem rul_n : ((-1 : Int32) - 8 < 0) ∧ ((-2 : Int32) - 8 < 0) ∧ ((-3 : Int32) - 8 < 0) := by decide
/-- the law's content: from the first token behind the rule on -/
theorem law_in {N : Nat} {Z : Nat → Nat} {o n r : Nat} {bt : Nat → Nat} {p p0 pl s : Nat} {x0 : Int32} {mC mR mC0 mR0 : Mem} (hN : 1000 ≤ N) (hr : r < 3) (od : OrdR Z o mC0 (hfM mR0)) (hs : s ≤ 64)
    (tls : ∀ q, q < 3 → ∃ f t, mC0.1 (o + 14) q = zN f ∧ mC0.1 (o + 15) q = zN t ∧ f ≤ t ∧ t ≤ s ∧ (q ≠ r → (f < t ↔ tbt (mR.1 99 23) (16 + q) = true))) (tr : tbt (mR.1 99 23) (16 + r) = true)
    (t5 : (mC0.1 o 7 = 0 ∧ tbt (mR.1 99 23) 5 = false) ∨ (mC0.1 o 7 = 1 ∧ tbt (mR.1 99 23) 5 = true)) (t6 : (mC0.1 o 9 = 0 ∧ tbt (mR.1 99 23) 6 = false) ∨ (mC0.1 o 9 = 1 ∧ tbt (mR.1 99 23) 6 = true)) (ms : ∀ i, i < 5 → mC0.1 (o + 1 + 2 * i) 0 = zN (mostT i))
    (h : LQ (o + 11) s [] [] 0 s s mC mR) (t : LT n bt 0 p pl mC mR) (d5 : mC.1 2 5 = 1) (d6 : mC.1 2 6 = 1) (d4 : mC.1 4 0 = 0)
    (gC : ∀ c j, ¬ (2 ≤ c ∧ c ≤ 5) → mC.1 c j = mC0.1 c j) (gJ : mC.2 = mC0.2) (gR : ∀ c j, ¬ (c = 99 ∧ 23 ≤ j ∧ j ≤ 29 ∧ j ≠ 24 ∧ j ≠ 25) → ¬ (c = 117 ∧ j = 3 + r) → mR.1 c j = mR0.1 c j) (e117 : mR.1 117 (3 + r) = zN s) (hp : p0 ≤ p) : ∃ mR1, fExpr N mR = some mR1 ∧ ((∃ mC', fX8_readLaw_89 N N (o + 11) (zN r) (zN s) 0 mC = some (0, mC') ∧ ((FlR mC' mR1 ∧ TFC o mC0 mC' ∧ TFR mR0 mR1) ∨ (∃ mR2, fX12_line_464 N (mI mR1 118 (3 + r) (mR1.1 101 15)) = some mR2 ∧ FlR mC' mR2 ∧ TFC o mC0 mC' ∧ TFR mR0 mR2))) ∨ (∃ p1 pl1 s1 M1, fX8_readLaw_89 N N (o + 11) (zN r) (zN s) 0 mC = some (1, M1) ∧ LI Z o n bt p1 pl1 s1 M1 (mI mR1 118 (3 + r) (mR1.1 101 15)) ∧ p0 ≤ p1 ∧ M1.1 o 10 = mC0.1 o 10 ∧ mR1.1 99 24 = mR0.1 99 24 ∧ TFC o mC0 M1 ∧ TFR mR0 (mI mR1 118 (3 + r) (mR1.1 101 15)))) := by
  have ho := od.ho
  have o7 : 7 ≤ o ∧ o ≤ 25 := by omega
  have C0 : TFC o mC0 mC := TFC.of (fun c j w1 w2 => gC c j w1) gJ (by omega)
  have R0 : TFR mR0 mR := fun c j w1 w2 => gR c j (by omega) (fun z => w2 (by rw [z.1, z.2, show hf 117 = 3 from rfl]; omega))
  have UP : ∀ (m : Mem) (v : Int32), TFR m (mI m 118 (3 + r) v) := fun m v => TFR.up (by omega) (by omega) (by show 3 ≤ 3 + r; omega)
  obtain ⟨mR1, e1, r1⟩ := grp_ok (N := N) (n := n) (l := o + 11) (f0 := s) (bt := bt) (x2 := zN r) (x3 := zN s) hN 200 0 (by omega) [] 0 s s 0 p pl N mC mR (by omega) h t (by omega) d5 trivial (Or.inl d4) (fun _ => ⟨d4, d6⟩) (fun z => absurd z (by omega))
  refine ⟨mR1, e1, ?_⟩
  rcases r1 with ⟨mC', a1, a2, a3, a4⟩ | ⟨V, c', s', i', p', pl', nn', mC', b1, b2, b3, b4, b5, b6, b7, b8, b9, b10, b11, b12, b13, b14, b15⟩
  · exact Or.inl ⟨mC', a1, Or.inl ⟨a2, C0.tr (TFC.law a3 rfl (by omega)), R0.tr (TFR.law a4)⟩⟩
  · have i7 := b4.i7
    have L := b3.len
    have ct := b3.ct
    have av := nS_ops V b3.vs
    rw [List.append_nil] at L ct
    obtain ⟨k1, k2, k3⟩ := b3.op
    obtain ⟨c1, c2, c3⟩ := b3.kn
    obtain ⟨nq, rfl, _⟩ := fuel (show 0 < nn' by omega)
    have fl1 : (mI mR1 118 (3 + r) (mR1.1 101 15)).1 99 30 = 0 := by
      rw [mI_n (by omega)]
      exact b3.fl
    have T1 : Tkn p' pl' mC' (mI mR1 118 (3 + r) (mR1.1 101 15)) := b4.tk.r (fun _ _ _ => rfl) (fun j _ _ => mI_n (by omega))
    by_cases e22 : mC'.1 5 4 = zN 22
    · obtain ⟨M, u1, u2, u3, u4, u5, u6⟩ := unl_all (b := 0) (m := mC') hN b3 (by omega) (fun v _ => by omega) trivial (fun c j w => rfl)
      have RL : fX8_readLaw_89 N (nq + 1) (o + 11) (zN r) (zN s) (zN i') mC' = some (1, mI (mI M (o + 14) r (zN s)) (o + 15) r (zN (s' + V.length))) := by
        rw [fX8_readLaw_89, if_neg (show ¬ ((700 : Int32) ≤ zN i') from zle (a := 700) (by omega) (by omega) (by omega)), if_pos b5, k2, if_pos (show zN 0 = (0 : Int32) from rfl), if_pos (show mC'.1 5 4 = (22 : Int32) from e22), show fX8_unload N (o + 11) (0 : Int32) mC' = some M from u1, b_some]
        unfold fX3_close
        rw [if_neg (znn (by omega)), if_neg (show ¬ ((2 : Int32) < zN r) from zlt (a := 2) (by omega) (by omega) (by omega)), g_in (by omega) (by omega), g_in (by omega) (by omega), zN_cl (by omega), b_some, mI_n (by omega), u3]
      have sz2 : mR1.1 101 15 = zN (s' + V.length) := b3.sz.2
      rw [sz2] at fl1 T1 ⊢
      -- what the class's memory and the reference's are by now
      have hC : ∀ c j, ¬ (2 ≤ c ∧ c ≤ 5) → ¬ (c = o + 11 ∧ (j = 6 ∨ j = 7)) → ¬ ((c = o + 12 ∨ c = o + 13) ∧ s ≤ j) → ¬ ((c = o + 14 ∨ c = o + 15) ∧ j = r) → (mI (mI M (o + 14) r (zN s)) (o + 15) r (zN (s' + V.length))).1 c j = mC0.1 c j := fun c j w1 w2 w3 w4 => by rw [mI_n (by omega), mI_n (by omega), u5 c j (by omega) (by omega) (by omega), b13.1 c j (by omega) (by omega) (by omega) (by omega) (by omega) (by omega), gC c j w1]
      have hR : ∀ c j, ¬ (c = 99 ∧ ((26 ≤ j ∧ j ≤ 31) ∨ j = 34 ∨ j = 35)) → ¬ (c = 99 ∧ j = 23) → ¬ (c = 101 ∧ j = 15) → ¬ ((c = 119 ∨ c = 120) ∧ 64 + s ≤ j) → ¬ ((c = 117 ∨ c = 118) ∧ j = 3 + r) → (mI mR1 118 (3 + r) (zN (s' + V.length))).1 c j = mR0.1 c j := fun c j w1 w2 w3 w4 w5 => by rw [mI_n (by omega), b14 c j (by omega) (by omega) (by omega), gR c j (by omega) (by omega)]
      have h23 : (mI mR1 118 (3 + r) (zN (s' + V.length))).1 99 23 = mR.1 99 23 := by rw [mI_n (by omega), b14 _ _ (by omega) (by omega) (by omega)]
      have hH : ∀ c k, 101 ≤ c → c ≤ 120 → ¬ (c = 101 ∧ k = 7) → ¬ ((c = 119 ∨ c = 120) ∧ s ≤ k) → ¬ ((c = 117 ∨ c = 118) ∧ k = r) → (hfM (mI mR1 118 (3 + r) (zN (s' + V.length)))).1 c k = (hfM mR0).1 c k := by
        intro c k w1 w2 w3 w4 w5
        rw [hfM_at w1 w2, hfM_at w1 w2]
        refine hR _ _ (by omega) (by omega) (fun z => w3 ?_) (fun z => w4 ?_) (fun z => w5 ?_)
        · obtain ⟨z1, z2⟩ := z
          rw [z1, show hf 101 = 8 from rfl] at z2
          exact ⟨z1, by omega⟩
        · obtain ⟨z1, z2⟩ := z
          refine ⟨z1, ?_⟩
          rcases z1 with z1 | z1
          · rw [z1, show hf 119 = 64 from rfl] at z2
            omega
          · rw [z1, show hf 120 = 64 from rfl] at z2
            omega
        · obtain ⟨z1, z2⟩ := z
          refine ⟨z1, ?_⟩
          rcases z1 with z1 | z1
          · rw [z1, show hf 117 = 3 from rfl] at z2
            omega
          · rw [z1, show hf 118 = 3 from rfl] at z2
            omega
      obtain ⟨dd, q1, q2, q3⟩ := b15 0
      have slt : s < s' + V.length := by
        by_cases w : s = s' + V.length
        · rw [← w, q1] at q2
          omega
        · omega
      -- the knots of the new law
      have NC : KCode o (mI (mI M (o + 14) r (zN s)) (o + 15) r (zN (s' + V.length))) (hfM (mI mR1 118 (3 + r) (zN (s' + V.length)))) s (s' + V.length) := by
        refine ⟨dd, q1, q2, fun j w1 w2 => ?_⟩
        have K := q3 j w1 w2
        have C : CM (M.1 (o + 12) j) (M.1 (o + 13) j) (mR1.1 119 (64 + j)) (mR1.1 120 (64 + j)) := by
          by_cases w : j < s'
          · rw [u5 _ _ (by omega) (by omega) (by omega), u5 _ _ (by omega) (by omega) (by omega)]
            exact b3.cm j w1 w
          · obtain ⟨j', rfl⟩ : ∃ j', j = s' + j' := ⟨j - s', by omega⟩
            have hj' : j' < V.length := by omega
            obtain ⟨v1, v2⟩ := u4 j' hj'
            obtain ⟨v3, v4⟩ := b3.cv j' hj'
            rw [show M.1 (o + 12) (s' + j') = _ from v1, show M.1 (o + 13) (s' + j') = _ from v2, v3, v4]
            exact Or.inr (Or.inr ⟨V.getD j' 0, b3.vs _ (getD_mem hj'), rfl, rfl, rfl⟩)
        rw [mI_n (by omega), mI_n (by omega), mI_n (by omega), mI_n (by omega), hfM_at (by omega) (by omega), hfM_at (by omega) (by omega), show hf 119 = 64 from rfl, show hf 120 = 64 from rfl, mI_n (by omega), mI_n (by omega)]
        exact knot_of C K
      have OD : OrdR Z o (mI (mI M (o + 14) r (zN s)) (o + 15) r (zN (s' + V.length))) (hfM (mI mR1 118 (3 + r) (zN (s' + V.length)))) := by
        have zm := od.zm
        refine ⟨od.ho, od.zb, fun i hi => ?_, fun i hi => ?_, fun i k c hi hk hc => ?_, fun k hk => ?_, fun k hk => ?_, fun k hk => ?_, fun k hk => ?_, fun k hk => ?_, ?_, ?_, fun q hq => ?_, ?_⟩
        · rw [hC _ _ (by omega) (by omega) (by omega) (by omega)]
          exact od.sC i hi
        · rw [hH _ _ (by omega) (by omega) (by omega) (by omega) (by omega)]
          exact od.sR i hi
        · rw [hC _ _ (by omega) (by omega) (by omega) (by omega), hH _ _ (by omega) (by omega) (by omega) (by omega) (by omega)]
          exact od.rw i k c hi hk hc
        · rw [hH _ _ (by omega) (by omega) (by omega) (by omega) (by omega), hH _ _ (by omega) (by omega) (by omega) (by omega) (by omega)]
          exact od.kb k hk
        · rw [hH _ _ (by omega) (by omega) (by omega) (by omega) (by omega), hH _ _ (by omega) (by omega) (by omega) (by omega) (by omega)]
          exact od.tl k hk
        · rw [hH _ _ (by omega) (by omega) (by omega) (by omega) (by omega), hH _ _ (by omega) (by omega) (by omega) (by omega) (by omega)]
          exact od.st k hk
        · rw [hH _ _ (by omega) (by omega) (by omega) (by omega) (by omega), hH _ _ (by omega) (by omega) (by omega) (by omega) (by omega)]
          exact od.ca k hk
        · rw [hH _ _ (by omega) (by omega) (by omega) (by omega) (by omega), hH _ _ (by omega) (by omega) (by omega) (by omega) (by omega), hH _ _ (by omega) (by omega) (by omega) (by omega) (by omega)]
          exact od.pi k hk
        · rw [hC _ _ (by omega) (by omega) (by omega) (by omega), hH _ _ (by omega) (by omega) (by omega) (by omega) (by omega)]
          exact od.fl
        · rw [hC _ _ (by omega) (by omega) (by omega) (by omega), hH _ _ (by omega) (by omega) (by omega) (by omega) (by omega)]
          exact od.sd
        · by_cases w : q = r
          · refine ⟨s, s' + V.length, by omega, by omega, ?_, ?_, ?_, ?_, fun _ => NC⟩
            · rw [w, mI_n (by omega), mI_s ⟨rfl, rfl⟩]
            · rw [hfM_at (by omega) (by omega), show hf 117 = 3 from rfl, w, mI_n (by omega), b14 _ _ (by omega) (by omega) (by omega)]
              exact e117
            · rw [w, mI_s ⟨rfl, rfl⟩]
            · rw [hfM_at (by omega) (by omega), show hf 118 = 3 from rfl, w, mI_s ⟨rfl, rfl⟩]
          · rw [hC _ _ (by omega) (by omega) (by omega) (by omega), hC _ _ (by omega) (by omega) (by omega) (by omega), hH _ _ (by omega) (by omega) (by omega) (by omega) (by omega), hH _ _ (by omega) (by omega) (by omega) (by omega) (by omega)]
            obtain ⟨f, t, a1, a2, a3, a4, a5, a6, a7⟩ := od.lw q hq
            obtain ⟨f', t', x1, x2, x3, x4, x5⟩ := tls q hq
            have et : t = t' := by
              rw [x2, zN_eq (by omega) (by omega)] at a5
              exact a5.symm
            refine ⟨f, t, a1, a2, a3, a4, a5, a6, fun y => ?_⟩
            obtain ⟨d, h1, h2, h3⟩ := a7 y
            refine ⟨d, h1, h2, fun i y1 y2 => ?_⟩
            rw [hC _ _ (by omega) (by omega) (by omega) (by omega), hC _ _ (by omega) (by omega) (by omega) (by omega), hH _ _ (by omega) (by omega) (by omega) (by omega) (by omega), hH _ _ (by omega) (by omega) (by omega) (by omega) (by omega)]
            exact h3 i y1 y2
        · rw [mI_n (by omega), mI_n (by omega), u5 _ _ (by omega) (by omega) (by omega), hfM_at (by omega) (by omega), show hf 101 + 7 = 15 from rfl, mI_n (by omega), sz2, show mC'.1 (o + 11) 6 = _ from c2, show c' = s' + V.length from by omega]
      have FC : TFC o mC0 (mI (mI M (o + 14) r (zN s)) (o + 15) r (zN (s' + V.length))) := TFC.of (fun c j w1 w2 => hC c j w1 (by omega) (by omega) (by omega)) (u6.trans (b13.2.trans gJ)) (by omega)
      have FR : TFR mR0 (mI mR1 118 (3 + r) (zN (s' + V.length))) := (R0.tr (TFR.law b14)).tr (UP _ _)
      refine Or.inr ⟨p', pl', s' + V.length, mI (mI M (o + 14) r (zN s)) (o + 15) r (zN (s' + V.length)), b1.trans RL, ⟨OD, ?_, ?_, b4.pn, fl1, ?_, ?_, ?_, fun q hq => ?_, ?_, ⟨by omega, ?_, ?_, ?_, ?_⟩, fun i hi => ?_⟩, by omega, hC _ _ (by omega) (by omega) (by omega) (by omega), ?_, FC, FR⟩
      · exact b4.tb.cong (fun c j w1 w2 w3 => by rw [mI_n (by omega), mI_n (by omega), u5 _ _ (by omega) (by omega) (by omega)]) (fun c j w1 w2 w3 => mI_n (by omega))
      · exact T1.r (fun j w1 w2 => by rw [mI_n (by omega), mI_n (by omega), u5 _ _ (by omega) (by omega) (by omega)]) (fun _ _ _ => rfl)
      · rw [mI_n (by omega), mI_n (by omega), u5 _ _ (by omega) (by omega) (by omega), mI_n (by omega), mI_n (by omega), u5 _ _ (by omega) (by omega) (by omega), mI_n (by omega)]
        exact b3.fz
      · rw [h23, hC _ _ (by omega) (by omega) (by omega) (by omega)]
        exact t5
      · rw [h23, hC _ _ (by omega) (by omega) (by omega) (by omega)]
        exact t6
      · rw [h23]
        by_cases w : q = r
        · refine ⟨s, s' + V.length, ?_, ?_, by omega, by omega, ⟨fun _ => by rw [w]; exact tr, fun _ => slt⟩⟩
          · rw [w, mI_n (by omega), mI_s ⟨rfl, rfl⟩]
          · rw [w, mI_s ⟨rfl, rfl⟩]
        · rw [hC _ _ (by omega) (by omega) (by omega) (by omega), hC _ _ (by omega) (by omega) (by omega) (by omega)]
          obtain ⟨f', t', x1, x2, x3, x4, x5⟩ := tls q hq
          exact ⟨f', t', x1, x2, x3, by omega, x5 w⟩
      · rw [mI_n (by omega)]
        exact k3
      · rw [mI_n (by omega), mI_n (by omega), u5 _ _ (by omega) (by omega) (by omega), show mC'.1 (o + 11) 6 = _ from c2, show c' = s' + V.length from by omega]
      · rw [mI_n (by omega), mI_n (by omega)]
        exact u3
      · rw [mI_n (by omega), c3, show c' = s' + V.length from by omega]
      · rw [mI_n (by omega)]
        exact sz2
      · rw [hC _ _ (by omega) (by omega) (by omega) (by omega)]
        exact ms i hi
      · rw [b14 _ _ (by omega) (by omega) (by omega), gR _ _ (by omega) (by omega)]
    · have F := FlR.mk T1 (v := 1) (by omega)
      have E4 : ∃ mR2, fX12_line_464 N (mI mR1 118 (3 + r) (mR1.1 101 15)) = some mR2 ∧ FlR (mI (mI mC' 2 7 (zN 1)) 2 8 (mC'.1 5 5)) mR2 ∧ TFR mR0 mR2 := by
        unfold fX12_line_464
        rw [if_pos fl1, show fX12_isSign (59 : Int32) (mI mR1 118 (3 + r) (mR1.1 101 15)) = _ from isSign_ok (x := 22) (y := 59) (mC := mC') (by decide) T1.kk fl1, b_some, if_neg e22, if_pos rfl, show fX12_wrong (1 : Int32) (mI mR1 118 (3 + r) (mR1.1 101 15)) = _ from wrong_ok (v := 1) fl1, b_some]
        unfold fX12_line_493
        exact ⟨_, rfl, F.q (mI_n (by omega)) (mI_n (by omega)), (((R0.tr (TFR.law b14)).tr (UP _ _)).tr TFR.fail).tr (TFR.up9 (k := 24) (by omega))⟩
      obtain ⟨mR2, x1, x2, x3⟩ := E4
      refine Or.inl ⟨mI (mI mC' 2 7 (zN 1)) 2 8 (mC'.1 5 5), ?_, Or.inr ⟨mR2, x1, x2, (C0.tr (TFC.law b13 rfl (by omega))).tr (TFC.fail (by omega)), x3⟩⟩
      rw [show fX8_readLaw_89 N N (o + 11) (zN r) (zN s) 0 mC = _ from b1, rl_sgn i7 b5 k2 k1 (fun z => e22 z.2), sgn_bad k1 k2 b4.tk.kk b8 (fun z => absurd z.2 (by omega)), b_some, if_pos rfl]
