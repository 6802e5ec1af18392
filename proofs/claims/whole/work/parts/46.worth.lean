/-! the worth of a law and what is called by name, ease -/
theorem znn {n : Nat} (h : n < 2147483648) : ¬ (zN n < 0) := by
  rw [zN_neg h]
  exact id
theorem law_told {Z : Nat → Nat} {o r N : Nat} {mC mR : Mem} (h : OrdR Z o mC mR) (hr : r < 3) (hN : 100 ≤ N) : (fX3_isTold (o + 11) (zN r) mC = some 0 ∧ fX12_hasLaw (zN r) mR = some 0) ∨ (fX3_isTold (o + 11) (zN r) mC = some 1 ∧ fX12_hasLaw (zN r) mR = some 1 ∧ ∀ mC1 mR1 : Mem, mC1.1 = mC.1 → mR1.1 = mR.1 → (∀ j, j < 7 → mC1.2.1 (o + 16) j = mR1.2.1 121 j ∧ Sm (mC1.2.1 (o + 16) j)) → ∃ w g mC' mR', fX3_worth N (o + 11) (zN r) mC1 = some (w, mC') ∧ fX12_goes N (zN r) mR1 = some (g, mR') ∧ mC'.1 = mC1.1 ∧ mC'.2.2 = mC1.2.2 ∧ (∀ c k, c ≠ o + 17 → mC'.2.1 c k = mC1.2.1 c k) ∧ (∀ c k, ¬ (c = 99 ∧ k = 38) → mR'.1 c k = mR1.1 c k) ∧ ((g = 0 ∧ w = lMIN) ∨ (g = 1 ∧ w = mR'.2.1 122 0 ∧ Sm w))) := by
  obtain ⟨f, t, a1, a2, a3, a4, a5, a6, a7⟩ := h.lw r hr
  have a3 : mC.1 (o + 11 + 3) r = zN f := a3
  have a5 : mC.1 (o + 11 + 4) r = zN t := a5
  have T : ∀ m : Mem, m.1 = mC.1 → fX3_isTold (o + 11) (zN r) m = (if zN t ≤ zN f then some 0 else some 1) := by
    intro m hm
    unfold fX3_isTold
    rw [if_neg (znn (by omega)), if_neg (show ¬ ((2 : Int32) < zN r) from zlt (a := 2) (by omega) (by omega) (by omega)), g_in (k := r) (by omega) (by omega), g_in (k := r) (by omega) (by omega), zN_cl (by omega), hm, a3, a5]
  have H : fX12_hasLaw (zN r) mR = (if zN t ≤ zN f then some 0 else some 1) := by
    unfold fX12_hasLaw
    rw [g_in (k := r) (by omega) (by omega), g_in (k := r) (by omega) (by omega), zN_cl (by omega), a4, a6]
  by_cases q : t ≤ f
  · left
    rw [T _ rfl, H, if_pos (zle' (by omega) (by omega) q)]
    exact ⟨rfl, rfl⟩
  · right
    have nq : ¬ (zN t ≤ zN f) := zle (by omega) (by omega) (by omega)
    refine ⟨by rw [T _ rfl, if_neg nq], by rw [H, if_neg nq], fun mC1 mR1 e1 e2 hn => ?_⟩
    obtain ⟨d, d0, d1, hk⟩ := a7 (by omega)
    have hE : EV (o + 11) mC1 (mI mR1 99 38 (0 : Int32)) (d f) := by
      rw [d0]
      exact ⟨fun j hj => absurd hj (by omega), fun j hj => hn j hj, mI_s ⟨rfl, rfl⟩⟩
    obtain ⟨w, g, mC', mR', q1, q2, q3, q4, q5, q6, q7⟩ := ev_loop (N := N) (L := o + 11) (r := r) (t := t) (f := f) (C := mC.1) (R := mR.1) hr a2 a5 a6 d d1 hk (t - f) f N N mC1 (mI mR1 99 38 (0 : Int32)) (by omega) (by omega) (by omega) (by omega) (by omega) e1 (fun c k z => by rw [mI_n (by omega), e2]) hE
    refine ⟨w, g, mC', mR', ?_, ?_, q3.trans e1.symm, q4, fun c k z => q5 c k z, fun c k z => (q6 c k z).trans (mI_n (by omega)), q7⟩
    · unfold fX3_worth
      rw [T _ e1, if_neg nq, b_some, if_neg (show ¬ ((1 : Int32) = 0) from by decide), g_in (k := r) (by omega) (by omega), zN_cl (by omega), e1, a3]
      rw [d0] at q1
      exact q1
    · unfold fX12_goes
      rw [g_in (k := r) (by omega) (by omega), zN_cl (by omega), mI_n (by omega), e2, a4]
      exact q2
theorem calls_k {s k t : Nat} {st : Int32} {mR : Mem} (hs : s ≤ 22) (hk : k < 6) (ht : t < 6) : ∃ M, fX12_calls (zN s) (zN k) (zN t) st mR = some M ∧ M.1 = mR.1 ∧ M.2.1 121 0 = (mR.1 127 (6 * s + t) / (10 : Int32)).toInt64 ∧ M.2.1 121 1 = (mR.1 128 (6 * s + k)).toInt64 ∧ M.2.1 121 2 = (mR.1 104 k).toInt64 ∧ M.2.1 121 3 = (mR.1 131 (6 * s + k)).toInt64 ∧ M.2.1 121 4 = (mR.1 126 (6 * s + t)).toInt64 ∧ M.2.1 121 5 = st.toInt64 ∧ M.2.1 121 6 = (mR.1 123 s).toInt64 := by
  unfold fX12_calls
  rw [if_neg (by rw [zN_m1 (by omega)]; exact id)]
  unfold fX12_calls_10 fX12_calls_59 fX12_calls_81 fX12_calls_108
  simp (disch := omega) only [zN_6, g_in, mJ_1, zN_cl, show (1 : Int32).toNatClampNeg = 1 from rfl, show (2 : Int32).toNatClampNeg = 2 from rfl, show (3 : Int32).toNatClampNeg = 3 from rfl, zN_neg, nle_f, or_false, ↓reduceIte, show ((1 : Int32) < 0) = False from by decide, show ((2 : Int32) < 0) = False from by decide, show ((3 : Int32) < 0) = False from by decide, show ((1 : Int32) = 0) = False from by decide]
  refine ⟨_, rfl, rfl, ?_, ?_, ?_, ?_, ?_, ?_, ?_⟩ <;> simp (disch := omega) only [mJ_s, mJ_n]
theorem calls_n {s t : Nat} {st : Int32} {mR : Mem} (hs : s ≤ 22) (ht : t < 6) : ∃ M, fX12_calls (zN s) (-1 : Int32) (zN t) st mR = some M ∧ M.1 = mR.1 ∧ M.2.1 121 0 = (mR.1 127 (6 * s + t) / (10 : Int32)).toInt64 ∧ M.2.1 121 1 = 0 ∧ M.2.1 121 2 = 0 ∧ M.2.1 121 3 = 0 ∧ M.2.1 121 4 = (mR.1 126 (6 * s + t)).toInt64 ∧ M.2.1 121 5 = st.toInt64 ∧ M.2.1 121 6 = (mR.1 123 s).toInt64 := by
  unfold fX12_calls
  rw [if_pos rfl]
  unfold fX12_calls_10 fX12_calls_59 fX12_calls_81 fX12_calls_108
  simp (disch := omega) only [zN_6, g_in, mJ_1, zN_cl, show (1 : Int32).toNatClampNeg = 1 from rfl, show (2 : Int32).toNatClampNeg = 2 from rfl, show (3 : Int32).toNatClampNeg = 3 from rfl, zN_neg, nle_f, or_false, ↓reduceIte, show ((1 : Int32) < 0) = False from by decide, show ((2 : Int32) < 0) = False from by decide, show ((3 : Int32) < 0) = False from by decide]
  refine ⟨_, rfl, rfl, ?_, ?_, ?_, ?_, ?_, ?_, ?_⟩ <;> simp (disch := omega) only [mJ_s, mJ_n]
theorem cell_eq {x k c n : Nat} {m : Mem} (hl : lay (x + 1) = (1, n)) (hn : n ≤ 1000) (hk : 3 * k + c < n) : fX9_cell x (zN k) (zN c) m = some (m.1 (x + 1) (3 * k + c)) := by
  unfold fX9_cell
  rw [hl]
  dsimp only
  rw [zN_3, if_neg (znn (by omega)), show (Int32.ofNat n) = zN n from rfl, if_neg (zle (by omega) (by omega) hk), g_in hk (by omega), zN_cl (by omega)]
theorem OrdR.lay {Z : Nat → Nat} {o : Nat} {mC mR : Mem} (h : OrdR Z o mC mR) : lay (o + 2) = (1, 18) ∧ lay (o + 4) = (1, 18) ∧ lay (o + 6) = (1, 36) ∧ lay (o + 8) = (1, 30) ∧ lay (o + 10) = (1, 24) := by
  rcases h.ho with rfl | rfl <;> exact ⟨rfl, rfl, rfl, rfl, rfl⟩
theorem hasTub_eq {Z : Nat → Nat} {o t : Nat} {mC mR : Mem} (h : OrdR Z o mC mR) (ht : t < Z 1) : fX6_hasTub o (zN t) mC = some 1 := by
  have hz := h.zb
  have e : mC.1 (o + 3) 2 = zN (Z 1) := h.sC 1 (by omega)
  unfold fX6_hasTub
  rw [if_neg (znn (by omega)), e, if_neg (zle (by omega) (by omega) ht), if_neg (show ¬ ((6 : Int32) ≤ zN t) from zle (a := 6) (by omega) (by omega) (by omega))]
theorem hasKnight_eq {Z : Nat → Nat} {o t : Nat} {mC mR : Mem} (h : OrdR Z o mC mR) (ht : t < Z 0) : fX6_hasKnight o (zN t) mC = some 1 := by
  have hz := h.zb
  have e : mC.1 (o + 1) 2 = zN (Z 0) := h.sC 0 (by omega)
  unfold fX6_hasKnight
  rw [if_neg (znn (by omega)), e, if_neg (zle (by omega) (by omega) ht), if_neg (show ¬ ((6 : Int32) ≤ zN t) from zle (a := 6) (by omega) (by omega) (by omega))]
/-- what both sides answer of a law -/
def WR (N o r : Nat) (mC mR : Mem) (rw : Option (Int64 × Mem)) (rc : Option Mem) : Prop := ∃ w mC' mR1, rw = some (w, mC') ∧ rc = some mR1 ∧ mC'.1 = mC.1 ∧ mC'.2.2 = mC.2.2 ∧ (∀ c k, c ≠ o + 16 → c ≠ o + 17 → mC'.2.1 c k = mC.2.1 c k) ∧ mR1.1 = mR.1 ∧ ((fX12_hasLaw (zN r) mR1 = some 0 ∧ w = lMIN) ∨ (fX12_hasLaw (zN r) mR1 = some 1 ∧ ∃ g mR', fX12_goes N (zN r) mR1 = some (g, mR') ∧ (∀ c k, ¬ (c = 99 ∧ k = 38) → mR'.1 c k = mR.1 c k) ∧ ((g = 0 ∧ w = lMIN) ∨ (g = 1 ∧ w = mR'.2.1 122 0 ∧ Sm w))))
theorem hasLaw_1 {x : Int32} {m m' : Mem} (h : m'.1 = m.1) : fX12_hasLaw x m' = fX12_hasLaw x m := by
  unfold fX12_hasLaw
  rw [h]
theorem worth_k {Z : Nat → Nat} {N o b s r k t : Nat} {st : Int32} {mC mR : Mem} (hN : 100 ≤ N) (hO : OrdR Z o mC mR) (hB : BathR Z b s mC mR) (hr : r < 3) (hr0 : r ≠ 0) (hk : k < Z 0) (ht : t < Z 1) : WR N o r mC mR (fX6_worthOf N o (zN r) b (zN k) (zN t) st mC) (fX12_calls (zN s) (zN k) (zN t) st mR) := by
  have hz := hO.zb
  obtain ⟨M, c0, c1, c2⟩ := calls_k (st := st) (mR := mR) hB.hs (show k < 6 by omega) (show t < 6 by omega)
  unfold fX6_worthOf
  rcases law_told (N := N) hO hr hN with ⟨l1, l2⟩ | ⟨l1, l2, l3⟩
  · rw [l1, b_some, if_pos rfl, c0]
    exact ⟨_, _, _, rfl, rfl, rfl, rfl, fun _ _ _ _ => rfl, c1, Or.inl ⟨(hasLaw_1 c1).trans l2, rfl⟩⟩
  · rw [l1, b_some, if_neg (show ¬ ((1 : Int32) = 0) from by decide), hasTub_eq hO ht, b_some, if_neg (show ¬ ((1 : Int32) = 0) from by decide), if_neg (show ¬ (zN r = (0 : Int32)) from zne (c := 0) (by omega) (by omega) hr0), hasKnight_eq hO hk, b_some, if_neg (show ¬ ((1 : Int32) = 0) from by decide)]
    have cel : ∀ m : Mem, m.1 = mC.1 → fX6_rankOf o (zN k) m = some (mC.1 (o + 2) (3 * k + 2)) := by
      intro m hm
      unfold fX6_rankOf
      rw [show (2 : Int32) = zN 2 from rfl, cell_eq (n := 18) hO.lay.1 (by omega) (by omega), b_some, hm]
    unfold fX6_worthOf_41 fX6_worthOf_86
    unfold fX6_worthOf_105 fX6_worthOf_125 fX6_worthOf_153
    simp (disch := omega) only [b_some, mJ_1, zN_cl, show (1 : Int32).toNatClampNeg = 1 from rfl, show (2 : Int32).toNatClampNeg = 2 from rfl, show (3 : Int32).toNatClampNeg = 3 from rfl, show (5 : Int32).toNatClampNeg = 5 from rfl, zN_neg, nle_f, or_false, ↓reduceIte, show ((1 : Int32) < 0) = False from by decide, show ((2 : Int32) < 0) = False from by decide, show ((3 : Int32) < 0) = False from by decide, show ((5 : Int32) < 0) = False from by decide, show ((1 : Int32) = 0) = False from by decide]
    obtain ⟨n0, n1, n2, n3, n4, n5, n6⟩ := c2
    have b0 : mC.1 (b + 2) t = mR.1 127 (6 * s + t) := hB.eq 1 t (by omega) (by omega)
    have b1 : mC.1 (b + 4) k = mR.1 128 (6 * s + k) := hB.eq 2 k (by omega) (by omega)
    have b2 : mC.1 (o + 2) (3 * k + 2) = mR.1 104 k := hO.rw 0 k 2 (by omega) hk (by omega)
    have b3 : mC.1 (b + 6) k = mR.1 131 (6 * s + k) := hB.eq 4 k (by omega) (by omega)
    have b4 : mC.1 (b + 1) t = mR.1 126 (6 * s + t) := hB.eq 0 t (by omega) (by omega)
    rw [b0, b1, cel (mJ (mJ mC _ _ _) _ _ _) rfl, b_some, b2, b3, b4, hB.mi, ← n0, ← n1, ← n2, ← n3, ← n4, ← n5, ← n6]
    generalize hM1 : mJ (mJ (mJ (mJ (mJ (mJ (mJ mC (o + 11 + 5) 0 (M.2.1 121 0)) (o + 11 + 5) 1 (M.2.1 121 1)) (o + 11 + 5) 2 (M.2.1 121 2)) (o + 11 + 5) 3 (M.2.1 121 3)) (o + 11 + 5) 4 (M.2.1 121 4)) (o + 11 + 5) 5 (M.2.1 121 5)) (o + 11 + 5) 6 (M.2.1 121 6) = M1
    have e1 : M1.1 = mC.1 := by rw [← hM1]; rfl
    have e2 : M1.2.2 = mC.2.2 := by rw [← hM1]; rfl
    have e3 : ∀ c k, c ≠ o + 16 → M1.2.1 c k = mC.2.1 c k := by
      intro c k hc
      rw [← hM1]
      simp (disch := omega) only [mJ_n]
    have e4 : ∀ j, j < 7 → M1.2.1 (o + 16) j = M.2.1 121 j := by
      intro j hj
      rw [← hM1, show o + 16 = o + 11 + 5 from rfl]
      rcases (show j = 0 ∨ j = 1 ∨ j = 2 ∨ j = 3 ∨ j = 4 ∨ j = 5 ∨ j = 6 by omega) with rfl | rfl | rfl | rfl | rfl | rfl | rfl <;> simp (disch := omega) only [mJ_s, mJ_n]
    have e5 : ∀ j, j < 7 → Sm (M.2.1 121 j) := by
      intro j hj
      rcases (show j = 0 ∨ j = 1 ∨ j = 2 ∨ j = 3 ∨ j = 4 ∨ j = 5 ∨ j = 6 by omega) with rfl | rfl | rfl | rfl | rfl | rfl | rfl
      · rw [n0]; exact Sm_i _
      · rw [n1]; exact Sm_i _
      · rw [n2]; exact Sm_i _
      · rw [n3]; exact Sm_i _
      · rw [n4]; exact Sm_i _
      · rw [n5]; exact Sm_i _
      · rw [n6]; exact Sm_i _
    obtain ⟨w, g, mC', mR', q1, q2, q3, q4, q5, q6, q7⟩ := l3 M1 M e1 c1 (fun j hj => ⟨e4 j hj, by rw [e4 j hj]; exact e5 j hj⟩)
    rw [q1, b_some, c0]
    exact ⟨w, mC', M, rfl, rfl, q3.trans e1, q4.trans e2, fun c k z1 z2 => (q5 c k z2).trans (e3 c k z1), c1, Or.inr ⟨(hasLaw_1 c1).trans l2, g, mR', q2, fun c k z => (q6 c k z).trans (by rw [c1]), q7⟩⟩
theorem worth_n {Z : Nat → Nat} {N o b s t : Nat} {x3 st : Int32} {mC mR : Mem} (hN : 100 ≤ N) (hO : OrdR Z o mC mR) (hB : BathR Z b s mC mR) (ht : t < Z 1) : WR N o 0 mC mR (fX6_worthOf N o (zN 0) b x3 (zN t) st mC) (fX12_calls (zN s) (-1 : Int32) (zN t) 0 mR) := by
  have hz := hO.zb
  obtain ⟨M, c0, c1, c2⟩ := calls_n (st := 0) (mR := mR) hB.hs (show t < 6 by omega)
  unfold fX6_worthOf
  rcases law_told (N := N) (r := 0) hO (by omega) hN with ⟨l1, l2⟩ | ⟨l1, l2, l3⟩
  · rw [l1, b_some, if_pos rfl, c0]
    exact ⟨_, _, _, rfl, rfl, rfl, rfl, fun _ _ _ _ => rfl, c1, Or.inl ⟨(hasLaw_1 c1).trans l2, rfl⟩⟩
  · rw [l1, b_some, if_neg (show ¬ ((1 : Int32) = 0) from by decide), hasTub_eq hO ht, b_some, if_neg (show ¬ ((1 : Int32) = 0) from by decide), if_pos (show zN 0 = (0 : Int32) from rfl)]
    unfold fX6_worthOf_40 fX6_worthOf_41 fX6_worthOf_86 fX6_worthOf_105 fX6_worthOf_125 fX6_worthOf_153
    simp (disch := omega) only [b_some, mJ_1, zN_cl, show (1 : Int32).toNatClampNeg = 1 from rfl, show (2 : Int32).toNatClampNeg = 2 from rfl, show (3 : Int32).toNatClampNeg = 3 from rfl, show (5 : Int32).toNatClampNeg = 5 from rfl, zN_neg, nle_f, or_false, ↓reduceIte, show ((1 : Int32) < 0) = False from by decide, show ((2 : Int32) < 0) = False from by decide, show ((3 : Int32) < 0) = False from by decide, show ((5 : Int32) < 0) = False from by decide]
    obtain ⟨n0, n1, n2, n3, n4, n5, n6⟩ := c2
    have n5 : M.2.1 121 5 = 0 := n5
    have b0 : mC.1 (b + 2) t = mR.1 127 (6 * s + t) := hB.eq 1 t (by omega) (by omega)
    have b4 : mC.1 (b + 1) t = mR.1 126 (6 * s + t) := hB.eq 0 t (by omega) (by omega)
    rw [b0, b4, hB.mi, ← n0, ← n4, ← n6]
    generalize hM1 : mJ (mJ (mJ (mJ (mJ (mJ (mJ mC (o + 11 + 5) 0 (M.2.1 121 0)) (o + 11 + 5) 1 0) (o + 11 + 5) 2 0) (o + 11 + 5) 3 0) (o + 11 + 5) 4 (M.2.1 121 4)) (o + 11 + 5) 5 0) (o + 11 + 5) 6 (M.2.1 121 6) = M1
    have e1 : M1.1 = mC.1 := by rw [← hM1]; rfl
    have e2 : M1.2.2 = mC.2.2 := by rw [← hM1]; rfl
    have e3 : ∀ c k, c ≠ o + 16 → M1.2.1 c k = mC.2.1 c k := by
      intro c k hc
      rw [← hM1]
      simp (disch := omega) only [mJ_n]
    have e4 : ∀ j, j < 7 → M1.2.1 (o + 16) j = M.2.1 121 j := by
      intro j hj
      rw [← hM1, show o + 16 = o + 11 + 5 from rfl]
      rcases (show j = 0 ∨ j = 1 ∨ j = 2 ∨ j = 3 ∨ j = 4 ∨ j = 5 ∨ j = 6 by omega) with rfl | rfl | rfl | rfl | rfl | rfl | rfl <;> simp (disch := omega) only [mJ_s, mJ_n, n1, n2, n3, n5]
    have e5 : ∀ j, j < 7 → Sm (M.2.1 121 j) := by
      intro j hj
      rcases (show j = 0 ∨ j = 1 ∨ j = 2 ∨ j = 3 ∨ j = 4 ∨ j = 5 ∨ j = 6 by omega) with rfl | rfl | rfl | rfl | rfl | rfl | rfl
      · rw [n0]; exact Sm_i _
      · rw [n1]; exact Sm_0
      · rw [n2]; exact Sm_0
      · rw [n3]; exact Sm_0
      · rw [n4]; exact Sm_i _
      · rw [n5]; exact Sm_0
      · rw [n6]; exact Sm_i _
    obtain ⟨w, g, mC', mR', q1, q2, q3, q4, q5, q6, q7⟩ := l3 M1 M e1 c1 (fun j hj => ⟨e4 j hj, by rw [e4 j hj]; exact e5 j hj⟩)
    rw [q1, b_some, c0]
    exact ⟨w, mC', M, rfl, rfl, q3.trans e1, q4.trans e2, fun c k z1 z2 => (q5 c k z2).trans (e3 c k z1), c1, Or.inr ⟨(hasLaw_1 c1).trans l2, g, mR', q2, fun c k z => (q6 c k z).trans (by rw [c1]), q7⟩⟩
