/-! brackets, and all levels -/
theorem sgn_bad {N l k : Nat} {mC mR : Mem} (k1 : k ≤ 8) (k2 : mC.1 2 4 = zN k) (kk : TkK (mC.1 5 4) (mC.1 5 6) (mR.1 99 28) (mR.1 99 29)) (hc : cmpOk 1 k mC) (h24 : ¬ (mC.1 5 4 = zN 24 ∧ 0 < k)) : fX8_takeSign N l mC = some (0, mI (mI mC 2 7 (zN 1)) 2 8 (mC.1 5 5)) := by
  have F92 : fX8_takeSign_92 N mC = some (0, mI (mI mC 2 7 (zN 1)) 2 8 (mC.1 5 5)) := by
    unfold fX8_takeSign_92
    rw [show fX8_fail (1 : Int32) mC = _ from fail_ok (v := 1), b_some, if_pos (Or.inl rfl)]
  have T49 : fX8_takeSign N l mC = fX8_takeSign_49 N l (mC.1 5 4) mC := by
    unfold fX8_takeSign
    by_cases w : mC.1 5 4 = (24 : Int32)
    · have k0 : k = 0 := by
        by_cases z : 0 < k
        · exact absurd ⟨w, z⟩ h24
        · omega
      rw [if_pos w, k2, k0, if_pos (by decide)]
    · rw [if_neg w]
  have Z0 : ∀ x y : Int32, fX8_takeSign_64 N l x 0 y mC = some (0, mI (mI mC 2 7 (zN 1)) 2 8 (mC.1 5 5)) := by
    intro x y
    unfold fX8_takeSign_64
    rw [if_pos rfl, F92]
  have T0 : ∀ x : Int32, fX8_binding x mC = some 0 → fX8_takeSign_49 N l x mC = some (0, mI (mI mC 2 7 (zN 1)) 2 8 (mC.1 5 5)) := by
    intro x hx
    unfold fX8_takeSign_49
    rw [hx, b_some, if_neg (by decide), Z0]
  rw [T49]
  obtain ⟨n1, n2, n3⟩ := binding_neg mC
  rcases kk.kd with w | w | w | ⟨x, hx, w⟩
  · rw [w]
    exact T0 _ n1
  · rw [w]
    exact T0 _ n2
  · rw [w]
    exact T0 _ n3
  · have bo := binding_ok hx mC
    have b6 := (bnd_ok x hx).2
    by_cases o : isOp x = true
    · rw [w]
      unfold fX8_takeSign_49
      rw [bo, b_some]
      rcases hc x o w with z | z | ⟨z1, z2⟩
      · have A : ∀ y y' : Int32, fX8_takeSign_64 N l (zN x) y y' mC = some (0, mI (mI mC 2 7 (zN 1)) 2 8 (mC.1 5 5)) := by
          intro y y'
          unfold fX8_takeSign_64
          rw [if_pos (show zN x = (13 : Int32) from by rw [z]; rfl), F92]
          split <;> rfl
        rw [A, A]
        split <;> rfl
      · have := (isOp_lt o).2.2.2.2.1
        omega
      · rw [if_pos (show zN (bnd x) = (4 : Int32) from by rw [z1]; rfl)]
        unfold fX8_takeSign_64
        rw [if_neg (show ¬ (zN (bnd x) = 0) from zne (c := 0) (by omega) (by omega) (by omega)), k2, if_neg (znn (by omega)), if_pos (show zN k ≤ (8 : Int32) from zle' (c := 8) (by omega) (by omega) k1), if_neg z10, g_in (by omega) (by omega), zN_cl (by omega), z2, if_neg z10, show fX8_fail (1 : Int32) mC = _ from fail_ok (v := 1), b_some, if_pos (Or.inl rfl), F92]
        split <;> rfl
    · rw [w]
      refine T0 _ ?_
      rw [bo, bnd0 x hx (by simpa using o)]
      rfl
/-- what waits above an open bracket is put, the bracket is away -/
theorem LQ.close {N l f0 : Nat} {V Q : List Nat} {k c s : Nat} {mC mR : Mem} (hN : 1000 ≤ N) (h : LQ l f0 V (23 :: Q) (k + 1) c s mC mR) (ek : mC.1 5 4 = zN 24) : ∃ M, fX8_takeSign N l mC = some (1, M) ∧ LQ l f0 [] Q k c (s + V.length) M (mI mR 99 34 (zN k)) ∧ (∀ cc j, ¬ (cc = 2 ∧ (j = 3 ∨ j = 4)) → ¬ (cc = l ∧ j = 7) → ¬ ((cc = l + 1 ∨ cc = l + 2) ∧ s ≤ j) → M.1 cc j = mC.1 cc j) ∧ M.2 = mC.2 := by
  have L := h.len
  have hl := h.hl
  have ct := h.ct
  have av := nS_ops V h.vs
  have as := nS_app V (23 :: Q)
  have ao := nO_app V (23 :: Q)
  have q1 : nS (23 :: Q) = nS Q := by rw [nS, if_pos rfl]; omega
  have q2 : nO (23 :: Q) = 1 + nO Q := by rw [nO, if_pos rfl]
  obtain ⟨k1, k2, k3⟩ := h.op
  obtain ⟨c1, c2, c3⟩ := h.kn
  obtain ⟨M, u1, u2, u3, u4, u5, u6⟩ := unl_all (b := 0) (m := mC) hN h (by omega) (fun v _ => by omega) (Or.inl rfl) (fun c j w => rfl)
  have e23 : zN (23 :: Q).length - (1 : Int32) = zN Q.length := by
    rw [List.length_cons]
    exact zN_sub (a := Q.length + 1) (b := 1) (by omega)
  have e24 : zN (k + 1) - (1 : Int32) = zN k := zN_sub (a := k + 1) (b := 1) (by omega)
  refine ⟨mI (mI M 2 3 (zN Q.length)) 2 4 (zN k), ?_, ?_, fun cc j w1 w2 w3 => ?_, u6⟩
  · unfold fX8_takeSign
    rw [if_pos (show mC.1 5 4 = (24 : Int32) from ek), k2, if_neg (show ¬ (zN (k + 1) ≤ 0) from zle (c := 0) (by omega) (by omega) (by omega)), show fX8_unload N l (0 : Int32) mC = some M from u1, b_some, u2, e23, mI_n (by omega), u5 2 4 (by omega) (by omega) (by omega), k2, e24]
  · refine ⟨by rw [mI_n (by omega)]; exact h.fl, ?_, ?_, ⟨by omega, mI_s ⟨rfl, rfl⟩, mI_s ⟨rfl, rfl⟩⟩, ⟨c1, ?_, ?_⟩, ⟨?_, ?_⟩, ⟨?_, ?_⟩, fun v hv => absurd hv (by simp), fun j hj => absurd hj (by simp), fun j a b => ?_, by omega, ?_⟩
    · rw [mI_n (by omega), mI_s ⟨rfl, rfl⟩]
      rfl
    · exact (Pd.dr V (23 :: Q) h.pd).2.cong _ (fun j _ => by rw [mI_n (by omega), mI_n (by omega), u5 _ _ (by omega) (by omega) (by omega)])
    · rw [mI_n (by omega), mI_n (by omega), u5 _ _ (by omega) (by omega) (by omega)]
      exact c2
    · rw [mI_n (by omega)]
      exact c3
    · rw [mI_n (by omega), mI_n (by omega)]
      exact u3
    · rw [mI_n (by omega)]
      exact h.sz.2
    · rw [List.nil_append]
      omega
    · rw [List.nil_append]
      omega
    · rw [mI_n (by omega), mI_n (by omega), mI_n (by omega), mI_n (by omega), mI_n (by omega), mI_n (by omega)]
      by_cases w : j < s
      · rw [u5 _ _ (by omega) (by omega) (by omega), u5 _ _ (by omega) (by omega) (by omega)]
        exact h.cm j a w
      · obtain ⟨j', rfl⟩ : ∃ j', j = s + j' := ⟨j - s, by omega⟩
        have hj' : j' < V.length := by omega
        obtain ⟨v1, v2⟩ := u4 j' hj'
        obtain ⟨v3, v4⟩ := h.cv j' hj'
        rw [v1, v2, v3, v4]
        exact Or.inr (Or.inr ⟨V.getD j' 0, h.vs _ (getD_mem hj'), rfl, rfl, rfl⟩)
    · rw [mI_n (by omega), mI_n (by omega), u5 _ _ (by omega) (by omega) (by omega), mI_n (by omega), mI_n (by omega), u5 _ _ (by omega) (by omega) (by omega), mI_n (by omega)]
      exact h.fz
  · rw [mI_n (by omega), mI_n (by omega), u5 _ _ (by omega) (by omega) (by omega)]
theorem LQ.open1 {l f0 : Nat} {Q : List Nat} {k c s : Nat} {mC mR : Mem} (h : LQ l f0 [] Q k c s mC mR) (hk : k < 8) : fX8_takeOpening mC = some (1, mI (mI (mI (mI (mI mC 2 4 (zN (k + 1))) 4 (k + 1) 0) 2 6 1) 3 Q.length (zN 23)) 2 3 (zN (Q.length + 1))) ∧ LQ l f0 [] (23 :: Q) (k + 1) c s (mI (mI (mI (mI (mI mC 2 4 (zN (k + 1))) 4 (k + 1) 0) 2 6 1) 3 Q.length (zN 23)) 2 3 (zN (Q.length + 1))) (mI mR 99 34 (zN (k + 1))) := by
  have L := h.len
  have hl := h.hl
  have ct := h.ct
  rw [List.nil_append] at L ct
  obtain ⟨k1, k2, k3⟩ := h.op
  obtain ⟨c1, c2, c3⟩ := h.kn
  have q1 : nS (23 :: Q) = nS Q := by rw [nS, if_pos rfl]; omega
  have q2 : nO (23 :: Q) = 1 + nO Q := by rw [nO, if_pos rfl]
  refine ⟨?_, ?_⟩
  · unfold fX8_takeOpening
    rw [k2, if_neg (znn (by omega)), if_pos (show zN k < (8 : Int32) from by rw [show (8 : Int32) = zN 8 from rfl, zN_lt (by omega) (by omega)]; exact hk), zN_s, mI_s ⟨rfl, rfl⟩, g_in (by omega) (by omega), zN_cl (by omega), show fX8_await (23 : Int32) (mI (mI (mI mC 2 4 (zN (k + 1))) 4 (k + 1) (vp_nar .boolean (0 : Int32))) 2 6 (1 : Int32)) = _ from await_ok (x := 23) (t := Q.length) (by rw [mI_n (by omega), mI_n (by omega), mI_n (by omega)]; exact h.wt) (by omega), b_some, if_pos (Or.inr rfl)]
    rfl
  · refine ⟨by rw [mI_n (by omega)]; exact h.fl, mI_s ⟨rfl, rfl⟩, ⟨?_, h.pd.cong _ (fun j hj => ?_)⟩, ⟨by omega, ?_, mI_s ⟨rfl, rfl⟩⟩, ⟨c1, ?_, ?_⟩, ⟨?_, ?_⟩, ⟨?_, ?_⟩, fun v hv => absurd hv (by simp), fun j hj => absurd hj (by simp), fun j a b => ?_, by omega, ?_⟩
    · rw [mI_n (by omega), mI_s ⟨rfl, rfl⟩]
    · rw [List.nil_append] at hj
      rw [mI_n (by omega), mI_n (by omega), mI_n (by omega), mI_n (by omega), mI_n (by omega)]
    · rw [mI_n (by omega), mI_n (by omega), mI_n (by omega), mI_n (by omega), mI_s ⟨rfl, rfl⟩]
    · rw [mI_n (by omega), mI_n (by omega), mI_n (by omega), mI_n (by omega), mI_n (by omega)]
      exact c2
    · rw [mI_n (by omega)]
      exact c3
    · rw [mI_n (by omega), mI_n (by omega), mI_n (by omega), mI_n (by omega), mI_n (by omega)]
      exact h.sz.1
    · rw [mI_n (by omega)]
      exact h.sz.2
    · rw [List.nil_append]
      omega
    · rw [List.nil_append]
      omega
    · rw [mI_n (by omega), mI_n (by omega), mI_n (by omega), mI_n (by omega), mI_n (by omega), mI_n (by omega), mI_n (by omega), mI_n (by omega), mI_n (by omega), mI_n (by omega), mI_n (by omega), mI_n (by omega)]
      exact h.cm j a b
    · rw [mI_n (by omega), mI_n (by omega), mI_n (by omega), mI_n (by omega), mI_n (by omega), mI_n (by omega), mI_n (by omega), mI_n (by omega), mI_n (by omega), mI_n (by omega), mI_n (by omega)]
      exact h.fz
theorem cmpOk7 {k : Nat} {m : Mem} : cmpOk 7 k m := fun x hx _ => Or.inr (Or.inl (by
  have := (bnd_ok x (isOp_lt hx).1).2
  omega))
theorem lv_prim {N n l f0 d : Nat} {bt : Nat → Nat} {x2 x3 : Int32} {rc : Nat → Mem → Option Mem} (hN : 1000 ≤ N) (R0 : LV N n l f0 bt x2 x3 d rc 0)
    {Q : List Nat} {k c s i p pl nn : Nat} {mC mR : Mem} (hd : 7 * (8 - k) + (64 - c) + (16 - 5) ≤ d + 1) (h : LQ l f0 [] Q k c s mC mR) (t : LT n bt i p pl mC mR) (hf : nn + i = N) (d5 : mC.1 2 5 = 1) (h13 : mC.1 5 4 = zN 13 → mC.1 2 6 = 0) : ∃ mR1, fX12_primary N rc mR = some mR1 ∧ LvRes N n l f0 bt x2 x3 (lvV 5) (lvT 5) (lvW 5 (mC.1 4 k)) 0 nn i s s k c p Q mC mR mR1 := by
  have kk := t.tk.kk
  by_cases ek : mC.1 5 4 = zN 23
  · have i7 := t.i7
    have i2 := t.i2 (by omega) ek
    have hl := h.hl
    have L := h.len
    rw [List.nil_append] at L
    obtain ⟨k1, k2, k3⟩ := h.op
    have c64 := h.kn.1
    obtain ⟨nn', rfl, _⟩ := fuel (show 0 < nn by omega)
    have RD : fX8_readLaw_89 N (nn' + 1) l x2 x3 (zN i) mC = ((fX8_takeOpening mC).bind (fun q25 => if q25.1 = 0 ∨ q25.1 = 1 then (some (q25.1, q25.2)) else none)).bind (fun q24 => if q24.1 = 0 then (some ((0 : Int32), q24.2)) else (fX8_readLaw_165 N (fun x1 x2 x3 x4 m => fX8_readLaw_89 N nn' x1 x2 x3 x4 m) l x2 x3 (zN i) q24.2)) := by
      rw [rl_due i7 d5]
      unfold fX8_takeOperand
      rw [if_pos (show mC.1 5 4 = (23 : Int32) from ek)]
    unfold fX12_primary
    rw [if_pos h.fl, show fX12_isSign (40 : Int32) mR = _ from isSign_ok (x := 23) (y := 40) (by decide) kk h.fl, b_some, if_pos ek, if_neg z10, k3]
    by_cases k8 : k = 8
    · have F := FlR.mk t.tk (v := 2) (by omega)
      rw [if_pos (show zN k = (8 : Int32) from by rw [k8]; rfl), show fX12_wrong (2 : Int32) mR = _ from wrong_ok (v := 2) h.fl, b_some]
      unfold fX12_primary_31
      rw [if_neg F.2.2]
      refine ⟨_, rfl, Or.inl ⟨_, ?_, F, LFC.fail, LFR.fail⟩⟩
      rw [RD]
      unfold fX8_takeOpening fX8_takeOpening_16
      rw [k2, if_neg (znn (by omega)), if_neg (show ¬ (zN k < (8 : Int32)) from zlt (c := 8) (by omega) (by omega) (by omega)), show fX8_fail (2 : Int32) mC = _ from fail_ok (v := 2), b_some, if_pos (Or.inl rfl), b_some, if_pos (Or.inl rfl), b_some, if_pos rfl]
    · rw [if_neg (show ¬ (zN k = (8 : Int32)) from zne (c := 8) (by omega) (by omega) k8)]
      unfold fX12_primary_31
      obtain ⟨o1, o2⟩ := h.open1 (by omega)
      have TB : TkB n bt (mI (mI (mI (mI (mI mC 2 4 (zN (k + 1))) 4 (k + 1) 0) 2 6 1) 3 Q.length (zN 23)) 2 3 (zN (Q.length + 1))) (mI mR 99 34 (zN (k + 1))) := t.tb.cong (fun cc j w1 w2 w3 => by rw [mI_n (by omega), mI_n (by omega), mI_n (by omega), mI_n (by omega), mI_n (by omega)]) (fun cc j w1 w2 w3 => mI_n (by omega))
      obtain ⟨mCa, mRa, pa, pla, a1, _, a2, a3, a4, a5, a6, a7, a8, a9⟩ := o2.adv hN TB (by rw [mI_n (by omega), mI_n (by omega), mI_n (by omega), mI_n (by omega), mI_n (by omega)]; exact t.tk.nC) (by rw [mI_n (by omega)]; exact t.tk.nR) t.pn i2
      have RD2 : fX8_readLaw_89 N (nn' + 1) l x2 x3 (zN i) mC = fX8_readLaw_89 N nn' l x2 x3 (zN (i + 1)) mCa := by
        rw [RD, o1, b_some, if_pos (Or.inr rfl), b_some, if_neg z10]
        unfold fX8_readLaw_165
        rw [a1, b_some, zN_s]
      have FC1 : LFC l s k mC mCa := ⟨fun cc j w1 w2 w3 w4 w5 w6 => by rw [a7 _ _ (by omega), mI_n (by omega), mI_n (by omega), mI_n (by omega), mI_n (by omega), mI_n (by omega)], a8⟩
      have FR1 : LFR s mR mRa := fun cc j w1 w2 w3 => by rw [a9 _ _ (by omega), mI_n (by omega)]
      have ka : mCa.1 4 k = mC.1 4 k := by rw [a7 _ _ (by omega), mI_n (by omega), mI_n (by omega), mI_n (by omega), mI_n (by omega), mI_n (by omega)]
      have ka1 : mCa.1 4 (k + 1) = 0 := by rw [a7 _ _ (by omega), mI_n (by omega), mI_n (by omega), mI_n (by omega), mI_s ⟨rfl, rfl⟩]
      have ka6 : mCa.1 2 6 = 1 := by rw [a7 _ _ (by omega), mI_n (by omega), mI_n (by omega), mI_s ⟨rfl, rfl⟩]
      have ka5 : mCa.1 2 5 = 1 := by
        rw [a7 _ _ (by omega), mI_n (by omega), mI_n (by omega), mI_n (by omega), mI_n (by omega), mI_n (by omega)]
        exact d5
      rw [if_pos h.fl, k3, zN_s, a2, b_some]
      obtain ⟨mRb, e2, r2⟩ := R0 (23 :: Q) (k + 1) c s (i + 1) pa pla nn' mCa mRa (by omega) a3 a4 (by omega) ka5 (Or.inl rfl) (Or.inl ka1) (fun _ => ⟨ka1, ka6⟩) (fun z => absurd z (by omega))
      rw [e2, b_some]
      rcases r2 with ⟨mCb, b1, b2, b3, b4⟩ | ⟨V', c', s', i', p', pl', nn'', mC', b1, b2, b3, b4, b5, b6, b7, b8, b9, b10, b11, b12, b13, b14, b15⟩
      · rw [if_neg b2.2.2]
        unfold fX12_primary_78
        rw [if_neg b2.2.2]
        exact ⟨mRb, rfl, Or.inl ⟨mCb, RD2.trans b1, b2, FC1.tr b3 (Nat.le_refl _) (by omega), FR1.tr b4 (Nat.le_refl _)⟩⟩
      · have i7' := b4.i7
        obtain ⟨nq, rfl, _⟩ := fuel (show 0 < nn'' by omega)
        rw [if_pos b3.fl, show fX12_isSign (41 : Int32) mRb = _ from isSign_ok (x := 24) (y := 41) (by decide) b4.tk.kk b3.fl, b_some]
        have kb : mC'.1 4 k = mC.1 4 k := by rw [b13.1 4 k (by omega) (by omega) (by omega) (by omega) (by omega) (by omega), ka]
        by_cases e24 : mC'.1 5 4 = zN 24
        · rw [if_pos e24, if_neg z10]
          unfold fX12_primary_78
          obtain ⟨M, m1, m2, m3, m4⟩ := b3.close hN e24
          have i2' := b4.i2 (by omega) e24
          have TB2 : TkB n bt M (mI mRb 99 34 (zN k)) := b4.tb.cong (fun cc j w1 w2 w3 => m3 cc j (by omega) (by omega) (by omega)) (fun cc j w1 w2 w3 => mI_n (by omega))
          obtain ⟨mCd, mRd, pd, pld, d1, _, d2, d3, d4, d5', d6, d7, d8, d9⟩ := m2.adv hN TB2 (by rw [m3 _ _ (by omega) (by omega) (by omega)]; exact b4.tk.nC) (by rw [mI_n (by omega)]; exact b4.tk.nR) b4.pn i2'
          have RD3 : fX8_readLaw_89 N (nq + 1) l x2 x3 (zN i') mC' = fX8_readLaw_89 N nq l x2 x3 (zN (i' + 1)) mCd := by
            rw [rl_sgn i7' b5 b3.op.2.1 b3.op.1 (fun z => by omega), m1, b_some, if_neg z10]
            unfold fX8_readLaw_165
            rw [d1, b_some, zN_s]
          have o3 : mRb.1 99 34 = zN (k + 1) := b3.op.2.2
          rw [if_pos b3.fl, o3, show zN (k + 1) - (1 : Int32) = zN k from zN_sub (a := k + 1) (b := 1) (by omega), d2, b_some]
          have FC2 : LFC l s (k + 1) mC' mCd := ⟨fun cc j w1 w2 w3 w4 w5 w6 => by rw [d7 _ _ (by omega), m3 _ _ (by omega) (by omega) (by omega)], d8.trans m4⟩
          have FR2 : LFR s mRb mRd := fun cc j w1 w2 w3 => by rw [d9 _ _ (by omega), mI_n (by omega)]
          refine ⟨mRd, rfl, Or.inr ⟨[], c', s' + V'.length, i' + 1, pd, pld, nq, mCd, RD2.trans (b1.trans RD3), by omega, d3, d4, ?_, Or.inr ⟨by omega, ?_⟩, fun v hv => absurd hv (by simp), cmpOk7, b9, by omega, by rw [List.length_nil]; omega, by omega, (FC1.tr b13 (Nat.le_refl _) (by omega)).tr FC2 (Nat.le_refl _) (by omega), (FR1.tr b14 (Nat.le_refl _)).tr FR2 (Nat.le_refl _), fun D => ?_⟩⟩
          · rw [d7 _ _ (by omega), m3 _ _ (by omega) (by omega) (by omega)]
            exact b5
          · rw [d7 _ _ (by omega), m3 _ _ (by omega) (by omega) (by omega)]
            exact kb
          · rw [List.length_nil, Nat.add_zero]
            exact (b15 D).cong (fun cc j w1 w2 w3 => by rw [d9 _ _ (by omega), mI_n (by omega)])
        · have F := FlR.mk b4.tk (v := 1) (by omega)
          rw [if_neg e24, if_pos rfl, show fX12_wrong (1 : Int32) mRb = _ from wrong_ok (v := 1) b3.fl, b_some]
          unfold fX12_primary_78
          rw [if_neg F.2.2]
          refine ⟨_, rfl, Or.inl ⟨_, ?_, F, (FC1.tr b13 (Nat.le_refl _) (by omega)).tr (LFC.fail (s0 := s) (k0 := k)) (Nat.le_refl _) (Nat.le_refl _), (FR1.tr b14 (Nat.le_refl _)).tr (LFR.fail (s0 := s)) (Nat.le_refl _)⟩⟩
          rw [RD2, b1, rl_sgn i7' b5 b3.op.2.1 b3.op.1 (fun z => by omega), sgn_bad b3.op.1 b3.op.2.1 b4.tk.kk b8 (fun z => e24 z.1), b_some, if_pos rfl]
  · obtain ⟨mRa, e1, r1⟩ := prim_step (x2 := x2) (x3 := x3) (rc := rc) hN h t hf d5 ek h13
    refine ⟨mRa, e1, ?_⟩
    rcases r1 with q | ⟨a0, mC', p', pl', nn', a1, a2, a3, a4, a5, a6, a7, a8, a9, a10, a11⟩
    · exact Or.inl q
    · exact Or.inr ⟨[], c + 1, s + 1, i + 1, p', pl', nn', mC', a1, a2, a3, a4, a5, Or.inr ⟨by omega, a6⟩, fun v hv => absurd hv (by simp), cmpOk7, by omega, by omega, by rw [List.length_nil]; omega, a7, a9, a10, a11⟩
theorem grp_ok {N n l f0 : Nat} {bt : Nat → Nat} {x2 x3 : Int32} (hN : 1000 ≤ N) : ∀ d g, g < 6 → LV N n l f0 bt x2 x3 d (fGrp N d) g := by
  intro d
  induction d with
  | zero =>
    intro g hg Q k c s i p pl nn mC mR hd
    omega
  | succ d ih =>
    intro g hg Q k c s i p pl nn mC mR hd h t hf d5 hQ h01 hl hh
    have RF : ∀ g', g' < 6 → ∀ m : Mem, ¬ m.1 99 30 = 0 → fGrp N d g' m = some m := by
      intro g' hg' m f
      obtain ⟨i5, i4, i3, i2, i1, i0⟩ := grp_f (N := N) (by omega) f d
      have : g' = 0 ∨ g' = 1 ∨ g' = 2 ∨ g' = 3 ∨ g' = 4 ∨ g' = 5 := by omega
      rcases this with rfl | rfl | rfl | rfl | rfl | rfl
      · exact i0 (by omega)
      · exact i1 (by omega)
      · exact i2 (by omega)
      · exact i3 (by omega)
      · exact i4 (by omega)
      · exact i5 (by omega)
    have : g = 0 ∨ g = 1 ∨ g = 2 ∨ g = 3 ∨ g = 4 ∨ g = 5 := by omega
    rcases this with rfl | rfl | rfl | rfl | rfl | rfl
    · exact lv_loop (g := 0) (Or.inl rfl) hN fA0 fB0 fC0 (ih 1 (by omega)) (RF 1 (by omega)) hd h t hf d5 hQ h01 hl hh
    · exact lv_loop (g := 1) (Or.inr (Or.inl rfl)) hN fA1 fB1 fC1 (ih 2 (by omega)) (RF 2 (by omega)) hd h t hf d5 hQ h01 hl hh
    · exact lv_neg hN (ih 2 (by omega)) (ih 3 (by omega)) (RF 2 (by omega)) (RF 3 (by omega)) hd h t hf d5 hQ (hl (by omega)).1 (hl (by omega)).2
    · exact lv_loop (g := 3) (Or.inr (Or.inr (Or.inl rfl))) hN fA3 fB3 fC3 (ih 4 (by omega)) (RF 4 (by omega)) hd h t hf d5 hQ h01 hl hh
    · exact lv_loop (g := 4) (Or.inr (Or.inr (Or.inr rfl))) hN fA4 fB4 fC4 (ih 5 (by omega)) (RF 5 (by omega)) hd h t hf d5 hQ h01 hl hh
    · exact lv_prim hN (ih 0 (by omega)) hd h t hf d5 (hh (by omega))
