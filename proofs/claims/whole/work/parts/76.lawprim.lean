/-! operands and brackets -/
theorem opd_put {N n l f0 : Nat} {bt : Nat → Nat} {Q : List Nat} {k c s i p pl nn x : Nat} {x2 x3 y0 y1 : Int32} {mC mR : Mem} (hN : 1000 ≤ N) (h : LQ l f0 [] Q k c s mC mR) (t : LT n bt i p pl mC mR) (hf : nn + i = N) (ek : mC.1 5 4 = zN x) (hx : x < 35) (tk : fX8_readLaw_89 N nn l x2 x3 (zN i) mC = (fX8_takeOperand_97 l (zN x) mC).bind (fun q24 => if q24.1 = 0 then (some ((0 : Int32), q24.2)) else (fX8_readLaw_165 N (fun x1 x2 x3 x4 m => fX8_readLaw_89 N (nn - 1) x1 x2 x3 x4 m) l x2 x3 (zN i) q24.2))) (hcm : CM (zN x) (mC.1 5 6) y1 y0) (hrk : ∀ D, RK y1 y0 D (D + 1)) : ∃ mR1, (fX12_knot mR).bind (fun q8 => (fX12_puts y1 y0 q8).bind (fun q12 => (fX12_goOn N q12).bind (fun q14 => some q14))) = some mR1 ∧ ((∃ mC', fX8_readLaw_89 N nn l x2 x3 (zN i) mC = some (0, mC') ∧ FlR mC' mR1 ∧ LFC l s k mC mC' ∧ LFR s mR mR1) ∨ (mR1.1 99 30 = 0 ∧ ∃ mC' p' pl' nn', fX8_readLaw_89 N nn l x2 x3 (zN i) mC = fX8_readLaw_89 N nn' l x2 x3 (zN (i + 1)) mC' ∧ nn' + (i + 1) = N ∧ LQ l f0 [] Q k (c + 1) (s + 1) mC' mR1 ∧ LT n bt (i + 1) p' pl' mC' mR1 ∧ mC'.1 2 5 = 0 ∧ mC'.1 4 k = mC.1 4 k ∧ p ≤ p' ∧ (mC'.1 5 4 = -1 ∨ p < p') ∧ LFC l s k mC mC' ∧ LFR s mR mR1 ∧ ∀ D, RSeg mR1 s (s + 1) D (D + 1))) := by
  have i7 := t.i7
  have i2 := t.i2 hx ek
  have L := h.len
  have hl := h.hl
  have ct := h.ct
  have aq := nSO Q
  rw [List.nil_append] at L ct
  obtain ⟨k1, k2, k3⟩ := h.op
  obtain ⟨c1, c2, c3⟩ := h.kn
  rw [tk]
  unfold fX8_takeOperand_97
  obtain ⟨K1, K2⟩ := knot_ok h
  by_cases cc : c = 64
  · obtain ⟨a1, a2⟩ := K1 cc
    have F := FlR.mk t.tk (v := 2) (by omega)
    rw [a1, b_some, puts_f F.2.2, b_some, goOn_f F.2.2, b_some, a2, b_some, if_pos rfl, b_some, if_pos rfl]
    exact ⟨_, rfl, Or.inl ⟨_, rfl, F, LFC.fail, LFR.fail⟩⟩
  · obtain ⟨a1, a2⟩ := K2 (by omega)
    rw [a1, b_some, puts_ok (t := s) (by rw [mI_n (by omega)]; exact h.fl) (by rw [mI_n (by omega)]; exact h.sz.2) (by omega), b_some, a2, b_some, if_neg z10, put_ok (s := s) (by rw [mI_n (by omega)]; exact h.sz.1) (by omega), b_some, b_some, if_neg z10]
    unfold fX8_readLaw_165
    have e56 : (mI mC l 6 (zN (c + 1))).1 5 6 = mC.1 5 6 := mI_n (by omega)
    dsimp only
    rw [e56]
    have LQ1 : LQ l f0 [] Q k (c + 1) (s + 1) (mI (mI (mI (mI (mI mC l 6 (zN (c + 1))) (l + 1) s (zN x)) (l + 2) s (mC.1 5 6)) l 7 (zN (s + 1))) 2 5 0) (mI (mI (mI (mI mR 99 35 (zN (c + 1))) 119 (64 + s) y1) 120 (64 + s) y0) 101 15 (zN (s + 1))) := by
      refine ⟨?_, ?_, (h.pd).cong _ (fun j hj => ?_), ⟨k1, ?_, ?_⟩, ⟨by omega, ?_, ?_⟩, ⟨?_, ?_⟩, ⟨?_, ?_⟩, fun v hv => absurd hv (by simp), fun j hj => absurd hj (by simp), fun j q1 q2 => ?_, by omega, ?_⟩
      · rw [mI_n (by omega), mI_n (by omega), mI_n (by omega), mI_n (by omega)]
        exact h.fl
      · rw [mI_n (by omega), mI_n (by omega), mI_n (by omega), mI_n (by omega), mI_n (by omega)]
        exact h.wt
      · rw [mI_n (by omega), mI_n (by omega), mI_n (by omega), mI_n (by omega), mI_n (by omega)]
      · rw [mI_n (by omega), mI_n (by omega), mI_n (by omega), mI_n (by omega), mI_n (by omega)]
        exact k2
      · rw [mI_n (by omega), mI_n (by omega), mI_n (by omega), mI_n (by omega)]
        exact k3
      · rw [mI_n (by omega), mI_n (by omega), mI_n (by omega), mI_n (by omega), mI_s ⟨rfl, rfl⟩]
      · rw [mI_n (by omega), mI_n (by omega), mI_n (by omega), mI_s ⟨rfl, rfl⟩]
      · rw [mI_n (by omega), mI_s ⟨rfl, rfl⟩]
      · rw [mI_s ⟨rfl, rfl⟩]
        rfl
      · rw [List.nil_append]
        omega
      · rw [List.nil_append]
        omega
      · by_cases w : j = s
        · rw [w, mI_n (by omega), mI_n (by omega), mI_n (by omega), mI_s ⟨rfl, rfl⟩, mI_n (by omega), mI_n (by omega), mI_s ⟨rfl, rfl⟩, mI_n (by omega), mI_n (by omega), mI_s ⟨rfl, rfl⟩, mI_n (by omega), mI_s ⟨rfl, rfl⟩]
          exact hcm
        · rw [mI_n (by omega), mI_n (by omega), mI_n (by omega), mI_n (by omega), mI_n (by omega), mI_n (by omega), mI_n (by omega), mI_n (by omega), mI_n (by omega), mI_n (by omega), mI_n (by omega), mI_n (by omega), mI_n (by omega), mI_n (by omega), mI_n (by omega), mI_n (by omega), mI_n (by omega), mI_n (by omega)]
          exact h.cm j q1 (by omega)
      · rw [mI_n (by omega), mI_n (by omega), mI_n (by omega), mI_n (by omega), mI_n (by omega), mI_n (by omega), mI_n (by omega), mI_n (by omega), mI_n (by omega), mI_n (by omega), mI_n (by omega), mI_n (by omega), mI_n (by omega), mI_n (by omega)]
        exact h.fz
    have TB : TkB n bt (mI (mI (mI (mI (mI mC l 6 (zN (c + 1))) (l + 1) s (zN x)) (l + 2) s (mC.1 5 6)) l 7 (zN (s + 1))) 2 5 0) (mI (mI (mI (mI mR 99 35 (zN (c + 1))) 119 (64 + s) y1) 120 (64 + s) y0) 101 15 (zN (s + 1))) := t.tb.cong (fun cc j w1 w2 w3 => by rw [mI_n (by omega), mI_n (by omega), mI_n (by omega), mI_n (by omega), mI_n (by omega)]) (fun cc j w1 w2 w3 => by rw [mI_n (by omega), mI_n (by omega), mI_n (by omega), mI_n (by omega)])
    obtain ⟨mC', mR', p', pl', b1, b2, _, b3, b4, b5, b6, b7, b8, b9⟩ := LQ1.adv hN TB (by rw [mI_n (by omega), mI_n (by omega), mI_n (by omega), mI_n (by omega), mI_n (by omega)]; exact t.tk.nC) (by rw [mI_n (by omega), mI_n (by omega), mI_n (by omega), mI_n (by omega)]; exact t.tk.nR) t.pn i2
    rw [b1, b2, b_some, b_some, zN_s]
    refine ⟨mR', rfl, Or.inr ⟨b3.fl, mC', p', pl', nn - 1, rfl, by omega, b3, b4, ?_, ?_, b5, b6, ⟨fun cc j q1 q2 q3 q4 q5 q6 => ?_, ?_⟩, fun cc j q1 q2 q3 => ?_, fun D => RSeg.one ?_⟩⟩
    · rw [b7 _ _ (by omega), mI_s ⟨rfl, rfl⟩]
    · rw [b7 _ _ (by omega), mI_n (by omega), mI_n (by omega), mI_n (by omega), mI_n (by omega), mI_n (by omega)]
    · rw [b7 _ _ (by omega), mI_n (by omega), mI_n (by omega), mI_n (by omega), mI_n (by omega), mI_n (by omega)]
    · rw [b8]
      rfl
    · rw [b9 _ _ (by omega), mI_n (by omega), mI_n (by omega), mI_n (by omega), mI_n (by omega)]
    · rw [b9 _ _ (by omega), b9 _ _ (by omega), mI_n (by omega), mI_n (by omega), mI_s ⟨rfl, rfl⟩, mI_n (by omega), mI_s ⟨rfl, rfl⟩]
      exact hrk D
/-- an operand that is no bracket -/
theorem prim_step {N n l f0 : Nat} {bt : Nat → Nat} {Q : List Nat} {k c s i p pl nn : Nat} {x2 x3 : Int32} {mC mR : Mem} {rc : Nat → Mem → Option Mem} (hN : 1000 ≤ N) (h : LQ l f0 [] Q k c s mC mR) (t : LT n bt i p pl mC mR) (hf : nn + i = N) (d : mC.1 2 5 = 1) (ek : mC.1 5 4 ≠ zN 23) (hn : mC.1 5 4 = zN 13 → mC.1 2 6 = 0) : ∃ mR1, fX12_primary N rc mR = some mR1 ∧ ((∃ mC', fX8_readLaw_89 N nn l x2 x3 (zN i) mC = some (0, mC') ∧ FlR mC' mR1 ∧ LFC l s k mC mC' ∧ LFR s mR mR1) ∨ (mR1.1 99 30 = 0 ∧ ∃ mC' p' pl' nn', fX8_readLaw_89 N nn l x2 x3 (zN i) mC = fX8_readLaw_89 N nn' l x2 x3 (zN (i + 1)) mC' ∧ nn' + (i + 1) = N ∧ LQ l f0 [] Q k (c + 1) (s + 1) mC' mR1 ∧ LT n bt (i + 1) p' pl' mC' mR1 ∧ mC'.1 2 5 = 0 ∧ mC'.1 4 k = mC.1 4 k ∧ p ≤ p' ∧ (mC'.1 5 4 = -1 ∨ p < p') ∧ LFC l s k mC mC' ∧ LFR s mR mR1 ∧ ∀ D, RSeg mR1 s (s + 1) D (D + 1))) := by
  have i7 := t.i7
  have kk := t.tk.kk
  have NM := kk.nm
  have hl := h.hl
  obtain ⟨nn', rfl, _⟩ := fuel (show 0 < nn by omega)
  have TO : fX8_takeOperand l mC = fX8_takeOperand_54 l (mC.1 5 4) mC := by
    unfold fX8_takeOperand
    rw [if_neg (show ¬ (mC.1 5 4 = (23 : Int32)) from ek)]
    by_cases w : mC.1 5 4 = (13 : Int32)
    · rw [if_pos w, if_pos (hn w)]
    · rw [if_neg w]
  have RD : fX8_readLaw_89 N (nn' + 1) l x2 x3 (zN i) mC = (fX8_takeOperand_54 l (mC.1 5 4) mC).bind (fun q24 => if q24.1 = 0 then (some ((0 : Int32), q24.2)) else (fX8_readLaw_165 N (fun x1 x2 x3 x4 m => fX8_readLaw_89 N nn' x1 x2 x3 x4 m) l x2 x3 (zN i) q24.2)) := by
    rw [rl_due i7 d, TO]
  -- at fault with v, on both sides
  have BAD : ∀ v : Nat, 1 ≤ v ∧ v ≤ 5 → fX8_takeOperand_54 l (mC.1 5 4) mC = some (0, mI (mI mC 2 7 (zN v)) 2 8 (mC.1 5 5)) → fX12_primary N rc mR = some (mI (mI mR 99 30 (zN v)) 99 31 (mR.1 99 27)) → ∃ mR1, fX12_primary N rc mR = some mR1 ∧ ((∃ mC', fX8_readLaw_89 N (nn' + 1) l x2 x3 (zN i) mC = some (0, mC') ∧ FlR mC' mR1 ∧ LFC l s k mC mC' ∧ LFR s mR mR1) ∨ (mR1.1 99 30 = 0 ∧ ∃ mC' p' pl' nn'', fX8_readLaw_89 N (nn' + 1) l x2 x3 (zN i) mC = fX8_readLaw_89 N nn'' l x2 x3 (zN (i + 1)) mC' ∧ nn'' + (i + 1) = N ∧ LQ l f0 [] Q k (c + 1) (s + 1) mC' mR1 ∧ LT n bt (i + 1) p' pl' mC' mR1 ∧ mC'.1 2 5 = 0 ∧ mC'.1 4 k = mC.1 4 k ∧ p ≤ p' ∧ (mC'.1 5 4 = -1 ∨ p < p') ∧ LFC l s k mC mC' ∧ LFR s mR mR1 ∧ ∀ D, RSeg mR1 s (s + 1) D (D + 1))) := by
    intro v hv e1 e2
    refine ⟨_, e2, Or.inl ⟨_, ?_, FlR.mk t.tk hv, LFC.fail, LFR.fail⟩⟩
    rw [RD, e1, b_some, if_pos rfl]
  have F66 : fX8_takeOperand_66 mC = some (0, mI (mI mC 2 7 (zN 1)) 2 8 (mC.1 5 5)) := by
    unfold fX8_takeOperand_66
    rw [show fX8_fail (1 : Int32) mC = _ from fail_ok (v := 1), b_some, if_pos (Or.inl rfl)]
  have P0 : fX12_primary N rc mR = (if mR.1 99 28 = 2 then fX12_primary_114 N rc 1 mR else fX12_primary_114 N rc 0 mR) := by
    unfold fX12_primary
    rw [if_pos h.fl, show fX12_isSign (40 : Int32) mR = _ from isSign_ok (x := 23) (y := 40) (by decide) kk h.fl, b_some, if_neg ek, if_pos rfl]
  have W162 : ∀ (v : Nat) (y : Int32), 1 ≤ v ∧ v ≤ 5 → fX12_primary_162 N rc y (mI (mI mR 99 30 (zN v)) 99 31 (mR.1 99 27)) = some (mI (mI mR 99 30 (zN v)) 99 31 (mR.1 99 27)) := by
    intro v y hv
    have f : ¬ (mI (mI mR 99 30 (zN v)) 99 31 (mR.1 99 27)).1 99 30 = 0 := (FlR.mk t.tk hv).2.2
    unfold fX12_primary_162 fX12_knot
    rw [if_neg f, b_some]
    unfold fX12_primary_176 fX12_primary_194
    by_cases w : y = 0
    · rw [if_pos w, if_pos w, puts_f f, b_some, goOn_f f, b_some]
    · rw [if_neg w, if_neg w, puts_f f, b_some, goOn_f f, b_some]
  have W1 : fX12_primary_157 N rc 0 mR = some (mI (mI mR 99 30 (zN 1)) 99 31 (mR.1 99 27)) := by
    unfold fX12_primary_157
    rw [show fX12_wrong (1 : Int32) mR = _ from wrong_ok (v := 1) h.fl, b_some, W162 1 0 (by omega)]
  -- what is no operand at all
  have STRAY : (mC.1 5 4 < 14 ∨ (21 : Int32) < mC.1 5 4) → ¬ (mR.1 99 28 = 2) → ¬ (mR.1 99 28 = 0 ∧ (14 : Int32) ≤ mR.1 99 29) → fX8_takeOperand_54 l (mC.1 5 4) mC = some (0, mI (mI mC 2 7 (zN 1)) 2 8 (mC.1 5 5)) ∧ fX12_primary N rc mR = some (mI (mI mR 99 30 (zN 1)) 99 31 (mR.1 99 27)) := by
    intro q1 q2 q3
    refine ⟨?_, ?_⟩
    · unfold fX8_takeOperand_54
      by_cases w : mC.1 5 4 < 14
      · rw [if_pos w, F66]
      · rw [if_neg w, if_neg (fun z => by
          rcases q1 with q | q
          · exact w q
          · exact Int32.not_le.mpr q z), F66]
    · rw [P0, if_neg q2]
      unfold fX12_primary_114 fX12_primary_137
      rw [if_pos rfl, if_pos rfl]
      by_cases w : mR.1 99 28 = 0
      · rw [if_pos w, if_neg (fun z => q3 ⟨w, z⟩), W1]
      · rw [if_neg w, W1]
  rcases kk with ⟨h1, h2⟩ | ⟨w, w1, h1, h2, h3⟩ | ⟨h1, h2, h3⟩ | ⟨h1, h2, a, b, ha, hb, hab⟩ | ⟨x', y', hx', h1, h2, h3⟩ | ⟨h1, h2⟩
  · have S := STRAY (Or.inl (by rw [h1]; decide)) (by rw [h2]; decide) (by rw [h2]; exact fun z => absurd z.1 (by decide))
    exact BAD 1 (by omega) S.1 S.2
  · by_cases q : 14 ≤ w
    · have C54 : fX8_takeOperand_54 l (mC.1 5 4) mC = fX8_takeOperand_97 l (zN w) mC := by
        unfold fX8_takeOperand_54
        rw [h1, if_neg (show ¬ (zN w < (14 : Int32)) from zlt (c := 14) (by omega) (by omega) q), if_pos (show zN w ≤ (21 : Int32) from zle' (c := 21) (by omega) (by omega) (by omega)), if_neg (show ¬ (zN w = (21 : Int32)) from zne (c := 21) (by omega) (by omega) (by omega))]
        split <;> rfl
      rw [C54] at RD
      have RR : fX12_primary N rc mR = (fX12_knot mR).bind (fun q8 => (fX12_puts (1 : Int32) (q8.1 99 29 - (14 : Int32)) q8).bind (fun q12 => (fX12_goOn N q12).bind (fun q14 => some q14))) := by
        rw [P0, h2, if_neg (by decide)]
        unfold fX12_primary_114 fX12_primary_137
        rw [if_pos rfl, if_pos rfl, if_pos h2, h3, if_pos (show (14 : Int32) ≤ zN w from zle' (a := 14) (by omega) (by omega) q)]
        rfl
      have RR2 : fX12_primary N rc mR = (fX12_knot mR).bind (fun q8 => (fX12_puts (1 : Int32) (zN (w - 14)) q8).bind (fun q12 => (fX12_goOn N q12).bind (fun q14 => some q14))) := by
        rw [RR]
        have e14 : zN w - (14 : Int32) = zN (w - 14) := zN_sub (b := 14) q
        obtain ⟨K1, K2⟩ := knot_ok h
        by_cases cc : c = 64
        · rw [(K1 cc).1, b_some, b_some, mI_n (by omega), mI_n (by omega), h3, e14]
        · rw [(K2 (by have := h.kn.1; omega)).1, b_some, b_some, mI_n (by omega), h3, e14]
      rw [RR2]
      exact opd_put (x := w) hN h t hf h1 (by omega) RD (Or.inl ⟨w - 14, by omega, by rw [show 14 + (w - 14) = w from by omega], rfl, rfl⟩) (fun D => Or.inl ⟨rfl, rfl⟩)
    · have S := STRAY (Or.inl (by rw [h1, show (14 : Int32) = zN 14 from rfl, zN_lt (by omega) (by omega)]; omega)) (by rw [h2]; decide) (by rw [h3]; exact fun z => absurd z.2 (show ¬ ((14 : Int32) ≤ zN w) from zle (a := 14) (by omega) (by omega) (by omega)))
      exact BAD 1 (by omega) S.1 S.2
  · have S := STRAY (Or.inl (by rw [h1]; decide)) (by rw [h2]; decide) (by rw [h2]; exact fun z => absurd z.1 (by decide))
    exact BAD 1 (by omega) S.1 S.2
  · have NR : a ≤ 1000000 ∧ b ≤ 999999 := by rcases hab with z | z <;> omega
    by_cases q : a ≤ 9999
    · have eab : a = b := by rcases hab with z | z <;> omega
      have C54 : fX8_takeOperand_54 l (mC.1 5 4) mC = fX8_takeOperand_97 l (zN 21) mC := by
        unfold fX8_takeOperand_54
        rw [h1, if_neg (by decide), if_pos (by decide), ha, if_pos (show zN a ≤ (9999 : Int32) from zle' (c := 9999) (by omega) (by omega) q)]
        rfl
      rw [C54] at RD
      have RR2 : fX12_primary N rc mR = (fX12_knot mR).bind (fun q8 => (fX12_puts (0 : Int32) (zN b) q8).bind (fun q12 => (fX12_goOn N q12).bind (fun q14 => some q14))) := by
        rw [P0, if_pos h2]
        unfold fX12_primary_114 fX12_primary_137 fX12_primary_162 fX12_primary_176 fX12_primary_194
        rw [if_neg z10, hb, if_pos (show zN b ≤ (9999 : Int32) from zle' (c := 9999) (by omega) (by omega) (by omega)), if_neg z10]
        obtain ⟨K1, K2⟩ := knot_ok h
        by_cases cc : c = 64
        · rw [(K1 cc).1, b_some, b_some, if_neg z10, if_neg z10, mI_n (by omega), mI_n (by omega), hb]
        · rw [(K2 (by have := h.kn.1; omega)).1, b_some, b_some, if_neg z10, if_neg z10, mI_n (by omega), hb]
      rw [RR2]
      exact opd_put (x := 21) hN h t hf h1 (by omega) RD (Or.inr (Or.inl ⟨a, q, rfl, ha, rfl, by rw [eab]⟩)) (fun D => Or.inr (Or.inl ⟨rfl, rfl⟩))
    · have hb9 : 9999 < b := by rcases hab with z | z <;> omega
      refine BAD 2 (by omega) ?_ ?_
      · unfold fX8_takeOperand_54
        rw [h1, if_neg (by decide), if_pos (by decide), ha, if_neg (show ¬ (zN a ≤ (9999 : Int32)) from zle (c := 9999) (by omega) (by omega) (by omega)), if_pos rfl, show fX8_fail (2 : Int32) mC = _ from fail_ok (v := 2), b_some, if_pos (Or.inl rfl)]
      · rw [P0, if_pos h2]
        unfold fX12_primary_114
        rw [if_neg z10, hb, if_neg (show ¬ (zN b ≤ (9999 : Int32)) from zle (c := 9999) (by omega) (by omega) (by omega)), show fX12_wrong (2 : Int32) mR = _ from wrong_ok (v := 2) h.fl, b_some, W162 2 1 (by omega)]
  · obtain ⟨c1, c2, c3, c4⟩ := sg_bd _ hx'
    dsimp only at c1 c2 c3 c4
    have S := STRAY (Or.inr (by rw [h1, show (21 : Int32) = zN 21 from rfl, zN_lt (by omega) (by omega)]; omega)) (by rw [h2]; decide) (by rw [h2]; exact fun z => absurd z.1 (by decide))
    exact BAD 1 (by omega) S.1 S.2
  · have S := STRAY (Or.inl (by rw [h1]; decide)) (by rw [h2]; decide) (by rw [h2]; exact fun z => absurd z.1 (by decide))
    exact BAD 1 (by omega) S.1 S.2
