/-! calls that only look, more -/
theorem op7 {N : Nat} (hN : 100 ≤ N) : OP7 Inv N := by
  intro mC mR x1 x2 x3 ⟨Z, o, nt, nu, nf, h⟩
  have h := h.th 0
  have hlo := h.lo
  unfold fX11_law fX12_law
  generalize mI mR 99 0 (0 : Int32) = R at h ⊢
  rcases zN_or x1 with q | ⟨r, hr, rfl⟩
  · rw [if_pos q, if_pos q]
    exact ⟨_, _, _, rfl, rfl, h.i⟩
  rw [if_neg (znn hr), if_neg (znn hr)]
  by_cases q : r < 3
  · have q2 : ¬ ((2 : Int32) < zN r) := zlt (a := 2) (by omega) (by omega) (by omega)
    rw [if_neg q2, if_neg q2, h.sp.1, if_pos hlo]
    have hL : fX12_hasLaw (zN r) R = some 0 ∨ fX12_hasLaw (zN r) R = some 1 := by
      rcases law_told (N := N) h.od q hN with ⟨l1, l2⟩ | ⟨l1, l2, l3⟩
      · exact Or.inl l2
      · exact Or.inr l2
    rcases tub_dec h.od x3 with ⟨t, t1, rfl, t3, t4⟩ | ⟨t3, t4⟩
    · rw [t3, t4, b_some, b_some, if_neg z10]
      have fin : ∀ (y : Int32), WR N o r mC R (fX6_worthOf N o (zN r) 43 x2 (zN t) (0 : Int32) mC) (fX12_calls (0 : Int32) y (zN t) (0 : Int32) R) → ∃ (v : Int64) (mC2 mR2 : Mem), fX11_law_43 N (zN r) x2 (zN t) mC = some (v, mC2) ∧ ((fX12_hasLaw (zN r) R).bind fun q3 => if q3 = 0 then some (lMIN, R) else fX12_law_57 N (zN r) (zN t) y (0 : Int32) R) = some (v, mR2) ∧ Inv mC2 mR2 := by
        intro y W
        obtain ⟨w, C1, R1, w1, w2, w3, w4, w5, w6, w7⟩ := W
        have hsc : SC o mC C1 := ⟨w3, w4, w5⟩
        unfold fX11_law_43 fX12_law_57
        rw [h.sp.1, if_pos hlo, w1, b_some, w2, b_some]
        dsimp only
        rcases w7 with ⟨v1, v2⟩ | ⟨v1, g, R2, v2, v3, v4⟩
        · rw [(hasLaw_1 w6).symm.trans v1, b_some, if_pos rfl, v2]
          exact ⟨_, _, _, rfl, rfl, (h.sc hsc (fun _ _ _ => rfl)).i⟩
        · rw [(hasLaw_1 w6).symm.trans v1, b_some, if_neg z10, v2, b_some]
          dsimp only
          have h2 := h.sc hsc v3
          rcases v4 with ⟨u1, u2⟩ | ⟨u1, u2, u3⟩
          · rw [u1, if_pos rfl, u2]
            exact ⟨_, _, _, rfl, rfl, h2.i⟩
          · rw [u1, if_neg z10, u2]
            exact ⟨_, _, _, rfl, rfl, h2.i⟩
      by_cases r0 : r = 0
      · subst r0
        rw [if_pos (show zN 0 = (0 : Int32) from rfl)]
        have F := fin (-1) (worth_n (s := 0) hN h.od h.nw t1)
        unfold fX12_law_46
        rw [if_pos (show zN 0 = (0 : Int32) from rfl), if_pos (show zN 0 = (0 : Int32) from rfl), if_neg z10]
        exact F
      · have nr : ¬ (zN r = (0 : Int32)) := zne (c := 0) (by omega) (by omega) r0
        unfold fX12_law_46
        rw [if_neg nr, if_neg nr, if_neg nr, if_pos hlo, if_neg z10]
        rcases kni_dec h.od x2 with ⟨k, k1, rfl, k3, k4⟩ | ⟨k3, k4⟩
        · rw [k3, k4, b_some, b_some, if_neg z10, if_neg z10]
          exact fin (zN k) (worth_k (s := 0) hN h.od h.nw q r0 k1 t1)
        · rw [k3, k4, b_some, b_some, if_pos rfl, if_pos rfl]
          rcases hL with l | l
          · rw [l, b_some, if_pos rfl]
            exact ⟨_, _, _, rfl, rfl, h.i⟩
          · rw [l, b_some, if_neg z10]
            exact ⟨_, _, _, rfl, rfl, h.i⟩
    · rw [t3, t4, b_some, b_some, if_pos rfl, if_pos rfl]
      rcases hL with l | l
      · rw [l, b_some, if_pos rfl]
        exact ⟨_, _, _, rfl, rfl, h.i⟩
      · rw [l, b_some, if_neg z10]
        exact ⟨_, _, _, rfl, rfl, h.i⟩
  · have q2 : (2 : Int32) < zN r := by
      rw [show (2 : Int32) = zN 2 from rfl, zN_lt (by omega) hr]
      omega
    rw [if_pos q2, if_pos q2]
    exact ⟨_, _, _, rfl, rfl, h.i⟩
/-- who stands ahead, as both tell it -/
theorem ahead_rel {Z : Nat → Nat} {a b : Nat} {mC mR : Mem} (hB : BathR Z 43 0 mC mR) (ha : a < 6) (hb : b < 6) : ∃ v, fX11_standsAhead (zN a) (zN b) mC = some v ∧ fX12_isAhead (zN a) (zN b) mR = some v ∧ (v = 0 ∨ v = 1) := by
  have q : ∀ j k, j < 7 → k < 6 → mC.1 (43 + pc j) k = mR.1 (pr j) k := by
    intro j k hj hk
    have q := hB.eq j k hj hk
    rw [Nat.mul_zero, Nat.zero_add] at q
    exact q
  unfold fX11_standsAhead fX12_isAhead
  simp (disch := omega) only [zN_cl, zN_neg, nle_f, or_false, ↓reduceIte]
  rw [show mC.1 50 a = mR.1 132 a from q 5 a (by omega) ha, show mC.1 50 b = mR.1 132 b from q 5 b (by omega) hb, show mC.1 49 a = mR.1 131 a from q 4 a (by omega) ha, show mC.1 49 b = mR.1 131 b from q 4 b (by omega) hb]
  by_cases e1 : mR.1 132 a = mR.1 132 b
  · rw [if_pos e1]
    by_cases e2 : mR.1 131 a = mR.1 131 b
    · rw [if_pos e2]
      by_cases e3 : zN b ≤ zN a
      · rw [if_pos e3]
        exact ⟨_, rfl, rfl, Or.inl rfl⟩
      · rw [if_neg e3]
        exact ⟨_, rfl, rfl, Or.inr rfl⟩
    · rw [if_neg e2]
      by_cases e3 : mR.1 131 a ≤ mR.1 131 b
      · rw [if_pos e3]
        exact ⟨_, rfl, rfl, Or.inl rfl⟩
      · rw [if_neg e3]
        exact ⟨_, rfl, rfl, Or.inr rfl⟩
  · rw [if_neg e1]
    by_cases e3 : mR.1 132 a ≤ mR.1 132 b
    · rw [if_pos e3]
      exact ⟨_, rfl, rfl, Or.inl rfl⟩
    · rw [if_neg e3]
      exact ⟨_, rfl, rfl, Or.inr rfl⟩
theorem order_in {Z : Nat → Nat} {o nt nu nf N a : Nat} {x1 : Int32} {mC mR : Mem} {k74 : Int32 → Int32 → Int32 → Mem → Option Int32} {k63 : Int32 → Int32 → Int32 → Mem → Option (Int32 × Mem)} (h : InvZ Z o nt nu nf mC mR) (ha : a < 6) : ∀ rem b nC nR x3, b + rem = Z 0 → rem < nC → rem < nR → ∃ x3', fX11_order_33 N k74 nC x1 (zN a) x3 (zN b) mC = k74 x1 (zN a) x3' mC ∧ fX12_order_28 N k63 nR x1 (zN a) x3 (zN b) mR = k63 x1 (zN a) x3' mR := by
  have hlo := h.lo
  have hz := h.od.zb
  have e1 : mC.1 (o + 1) 2 = zN (Z 0) := h.od.sC 0 (by omega)
  have e2 : mR.1 101 0 = zN (Z 0) := h.od.sR 0 (by omega)
  intro rem
  induction rem with
  | zero =>
    intro b nC nR x3 hb hnC hnR
    obtain ⟨nC', rfl, _⟩ := fuel hnC
    obtain ⟨nR', rfl, _⟩ := fuel hnR
    rw [fX11_order_33, h.sp.1, if_pos hlo, e1, if_pos (zle' (by omega) (by omega) (by omega)), fX12_order_28, e2, if_pos (zle' (by omega) (by omega) (by omega))]
    exact ⟨x3, rfl, rfl⟩
  | succ rem ih =>
    intro b nC nR x3 hb hnC hnR
    obtain ⟨nC', rfl, hnC⟩ := fuel hnC
    obtain ⟨nR', rfl, hnR⟩ := fuel hnR
    obtain ⟨v, v1, v2, v3⟩ := ahead_rel h.nw (show b < 6 by omega) ha
    rw [fX11_order_33, h.sp.1, if_pos hlo, e1, if_neg (zle (by omega) (by omega) (by omega)), if_neg (show ¬ ((6 : Int32) ≤ zN b) from zle (a := 6) (by omega) (by omega) (by omega)), v1, b_some, zN_s, fX12_order_28, e2, if_neg (zle (by omega) (by omega) (by omega)), v2, b_some, zN_s]
    rcases v3 with rfl | rfl
    · rw [if_pos rfl, if_pos rfl, Int32.add_zero]
      exact ih (b + 1) nC' nR' x3 (by omega) (by omega) (by omega)
    · rw [if_neg z10, if_neg z10]
      exact ih (b + 1) nC' nR' (x3 + 1) (by omega) (by omega) (by omega)
theorem order_out {Z : Nat → Nat} {o nt nu nf N : Nat} {x1 : Int32} {mC mR : Mem} (hN : 100 ≤ N) (h : InvZ Z o nt nu nf mC mR) : ∀ rem a nC nR, a + rem = Z 0 → rem < nC → rem < nR → ∃ v, fX11_order_8 N nC x1 (zN a) mC = some v ∧ fX12_order_13 N nR x1 (zN a) mR = some (v, mR) := by
  have hlo := h.lo
  have hz := h.od.zb
  have e1 : mC.1 (o + 1) 2 = zN (Z 0) := h.od.sC 0 (by omega)
  have e2 : mR.1 101 0 = zN (Z 0) := h.od.sR 0 (by omega)
  intro rem
  induction rem with
  | zero =>
    intro a nC nR hb hnC hnR
    obtain ⟨nC', rfl, _⟩ := fuel hnC
    obtain ⟨nR', rfl, _⟩ := fuel hnR
    rw [fX11_order_8, h.sp.1, if_pos hlo, e1, if_pos (zle' (by omega) (by omega) (by omega)), fX12_order_13, e2, if_pos (zle' (by omega) (by omega) (by omega))]
    exact ⟨_, rfl, rfl⟩
  | succ rem ih =>
    intro a nC nR hb hnC hnR
    obtain ⟨nC', rfl, hnC⟩ := fuel hnC
    obtain ⟨nR', rfl, hnR⟩ := fuel hnR
    obtain ⟨x, x1', x2'⟩ := order_in (N := N) (x1 := x1) (k74 := fX11_order_74 N (fun x1 x2 m => fX11_order_8 N nC' x1 x2 m)) (k63 := fX12_order_63 N (fun x1 x2 m => fX12_order_13 N nR' x1 x2 m)) h (show a < 6 by omega) (Z 0) 0 N N (0 : Int32) (by omega) (by omega) (by omega)
    rw [fX11_order_8, h.sp.1, if_pos hlo, e1, if_neg (zle (by omega) (by omega) (by omega)), if_neg (show ¬ ((6 : Int32) ≤ zN a) from zle (a := 6) (by omega) (by omega) (by omega)), show fX11_order_33 N (fX11_order_74 N (fun x1 x2 m => fX11_order_8 N nC' x1 x2 m)) N x1 (zN a) (0 : Int32) (0 : Int32) mC = _ from x1', fX12_order_13, e2, if_neg (zle (by omega) (by omega) (by omega)), show fX12_order_28 N (fX12_order_63 N (fun x1 x2 m => fX12_order_13 N nR' x1 x2 m)) N x1 (zN a) (0 : Int32) (0 : Int32) mR = _ from x2']
    unfold fX11_order_74 fX12_order_63
    by_cases q : x = x1
    · rw [if_pos q, if_pos q]
      exact ⟨_, rfl, rfl⟩
    · rw [if_neg q, if_neg q, zN_s]
      exact ih (a + 1) nC' nR' (by omega) (by omega) (by omega)
theorem op16 {N : Nat} (hN : 100 ≤ N) : OP16 Inv N := by
  intro mC mR x1 ⟨Z, o, nt, nu, nf, h⟩
  have h := h.th 0
  have hz := h.od.zb
  unfold fX11_order fX12_order
  generalize mI mR 99 0 (0 : Int32) = R at h ⊢
  by_cases q : 0 ≤ x1
  · rw [if_pos q, if_pos q]
    obtain ⟨v, v1, v2⟩ := order_out (x1 := x1) hN h (Z 0) 0 N N (by omega) (by omega) (by omega)
    exact ⟨v, R, v1, v2, h.i⟩
  · rw [if_neg q, if_neg q]
    exact ⟨_, _, rfl, rfl, h.i⟩
theorem few_in {Z : Nat → Nat} {o nt nu nf N t : Nat} {x2 : Int32} {mC mR : Mem} (h : InvZ Z o nt nu nf mC mR) (ht : t < Z 1) : ∀ rem k nC nR, k + rem = 61 → 1 ≤ k → rem < nC → rem < nR → ∃ v, fX11_fewestFor_20 N nC (zN t) x2 (zN k) mC = some v ∧ fX12_addsTo_17 N nR (zN t) x2 (zN k) mR = some v := by
  have hz := h.od.zb
  obtain ⟨l, l1, l2, l3⟩ := h.nw.li t ht
  obtain ⟨hh, h1, h2, h3⟩ := h.nw.he t ht
  have b0 : mC.1 (43 + 1) t = zN l := (h.nw.eq 0 t (by omega) (by omega)).trans l3
  have b1 : mC.1 (43 + 2) t = zN hh := (h.nw.eq 1 t (by omega) (by omega)).trans h3
  rw [Nat.mul_zero, Nat.zero_add] at l3 h3
  intro rem
  induction rem with
  | zero =>
    intro k nC nR hk hk1 hnC hnR
    obtain ⟨nC', rfl, _⟩ := fuel hnC
    obtain ⟨nR', rfl, _⟩ := fuel hnR
    have e : k = 61 := by omega
    subst e
    rw [fX11_fewestFor_20, if_pos (show (60 : Int32) < zN 61 from by decide), fX12_addsTo_17, if_pos (show (60 : Int32) < zN 61 from by decide)]
    exact ⟨_, rfl, rfl⟩
  | succ rem ih =>
    intro k nC nR hk hk1 hnC hnR
    obtain ⟨nC', rfl, hnC⟩ := fuel hnC
    obtain ⟨nR', rfl, hnR⟩ := fuel hnR
    have c60 : ¬ ((60 : Int32) < zN k) := zlt (a := 60) (by omega) (by omega) (by omega)
    rw [fX11_fewestFor_20, if_neg c60, fX12_addsTo_17, if_neg c60, zN_s]
    have mx : (zN l * zN hh + zN k * (990 : Int32)) / (zN l + zN k) = zN ((l * hh + k * 990) / (l + k)) := mix_eq (g := 990) l2 (by omega) h2 (by omega)
    have nz : ¬ (zN l + zN k = 0) := by
      rw [zN_add]
      exact zne (c := 0) (by omega) (by omega) (by omega)
    have H : fX0_hasRoom 43 (zN t) (zN k) mC = (if (999 : Int32) < zN l + zN k then some 0 else some 1) := by
      unfold fX0_hasRoom
      rw [isTub_1 (by omega), b_some, if_neg z10, g_in (by omega) (by omega), zN_cl (by omega), b0]
    have M : fX0_mixedHeat 43 (zN t) (zN k) (990 : Int32) mC = some (zN ((l * hh + k * 990) / (l + k))) := by
      unfold fX0_mixedHeat
      rw [isTub_1 (by omega), b_some, if_neg z10, g_in (by omega) (by omega), zN_cl (by omega), b0, b1, if_pos (show 0 < zN l + zN k from by rw [zN_add, show (0 : Int32) = zN 0 from rfl, zN_lt (by omega) (by omega)]; omega), g_ii (by omega) (by omega), g_ii (by omega) (by omega), g_ii (by omega) (by omega), if_neg nz, mx]
    rw [H, M, b_some]
    unfold fX12_mixed
    rw [g_in (by omega) (by omega), zN_cl (by omega), l3, h3, g_ii (by omega) (by omega), g_ii (by omega) (by omega), if_neg nz, mx, b_some]
    by_cases q : (999 : Int32) < zN l + zN k
    · rw [if_pos q, if_pos q, b_some, if_pos rfl]
      exact ⟨_, rfl, rfl⟩
    · rw [if_neg q, if_neg q, b_some, if_neg z10]
      by_cases q2 : zN ((l * hh + k * 990) / (l + k)) < (10 : Int32) * x2
      · rw [if_pos q2, if_pos q2]
        exact ih (k + 1) nC' nR' (by omega) (by omega) (by omega) (by omega)
      · rw [if_neg q2, if_neg q2]
        exact ⟨_, rfl, rfl⟩
theorem few_rel {Z : Nat → Nat} {o nt nu nf N t : Nat} {x2 : Int32} {mC mR : Mem} (hN : 100 ≤ N) (h : InvZ Z o nt nu nf mC mR) (ht : t < Z 1) : ∃ v, fX11_fewestFor N (zN t) x2 mC = some v ∧ fX12_addsTo N (zN t) x2 mR = some v := by
  have hz := h.od.zb
  have b1 : mC.1 45 t = mR.1 127 t := by
    have q := h.nw.eq 1 t (by omega) (by omega)
    rw [Nat.mul_zero, Nat.zero_add] at q
    exact q
  unfold fX11_fewestFor fX12_addsTo
  rw [g_in (by omega) (by omega), g_in (by omega) (by omega), zN_cl (by omega), b1]
  by_cases q : mR.1 127 t < (10 : Int32) * x2
  · rw [if_pos q, if_pos q]
    exact few_in h ht 60 1 N N (by omega) (by omega) (by omega) (by omega)
  · rw [if_neg q, if_neg q]
    exact ⟨_, rfl, rfl⟩
theorem deg_rel (x : Int32) (m m' : Mem) : ∃ v, fX11_isDegrees x m = some v ∧ fX12_areDegrees x m' = some v ∧ (v = 0 ∨ v = 1) := by
  unfold fX11_isDegrees fX12_areDegrees
  by_cases q : x < 0
  · rw [if_pos q]
    exact ⟨_, rfl, rfl, Or.inl rfl⟩
  · rw [if_neg q]
    by_cases q : (99 : Int32) < x
    · rw [if_pos q]
      exact ⟨_, rfl, rfl, Or.inl rfl⟩
    · rw [if_neg q]
      exact ⟨_, rfl, rfl, Or.inr rfl⟩
theorem op17 {N : Nat} (hN : 100 ≤ N) : OP17 Inv N := by
  intro mC mR x1 x2 ⟨Z, o, nt, nu, nf, h⟩
  have h := h.th 0
  have hlo := h.lo
  unfold fX11_addFor fX12_addFor
  generalize mI mR 99 0 (0 : Int32) = R at h ⊢
  rw [h.sp.1, if_pos hlo]
  rcases tub_dec h.od x1 with ⟨t, t1, rfl, t3, t4⟩ | ⟨t3, t4⟩
  · rw [t3, t4, b_some, b_some, if_neg z10, if_neg z10]
    obtain ⟨v, v1, v2, v3⟩ := deg_rel x2 mC R
    rw [v1, v2, b_some, b_some]
    rcases v3 with rfl | rfl
    · rw [if_pos rfl, if_pos rfl]
      exact ⟨_, _, rfl, rfl, h.i⟩
    · rw [if_neg z10, if_neg z10]
      obtain ⟨v, v1, v2⟩ := few_rel (x2 := x2) hN h t1
      rw [v1, v2, b_some, b_some]
      exact ⟨_, _, rfl, rfl, h.i⟩
  · rw [t3, t4, b_some, b_some, if_pos rfl, if_pos rfl]
    exact ⟨_, _, rfl, rfl, h.i⟩
theorem coal_in {Z : Nat → Nat} {o nt nu nf N : Nat} {x1 : Int32} {mC mR : Mem} (hN : 100 ≤ N) (h : InvZ Z o nt nu nf mC mR) : ∀ rem t nC nR x2, t + rem = Z 1 → rem < nC → rem < nR → ∃ v, fX11_coal_13 N nC x1 x2 (zN t) mC = some v ∧ fX12_coal_18 N nR x1 x2 (zN t) mR = some (v, mR) := by
  have hlo := h.lo
  have hz := h.od.zb
  have e1 : mC.1 (o + 3) 2 = zN (Z 1) := h.od.sC 1 (by omega)
  have e2 : mR.1 101 1 = zN (Z 1) := h.od.sR 1 (by omega)
  intro rem
  induction rem with
  | zero =>
    intro t nC nR x2 hb hnC hnR
    obtain ⟨nC', rfl, _⟩ := fuel hnC
    obtain ⟨nR', rfl, _⟩ := fuel hnR
    rw [fX11_coal_13, h.sp.1, if_pos hlo, e1, if_pos (zle' (by omega) (by omega) (by omega)), fX12_coal_18, e2, if_pos (zle' (by omega) (by omega) (by omega))]
    exact ⟨_, rfl, rfl⟩
  | succ rem ih =>
    intro t nC nR x2 hb hnC hnR
    obtain ⟨nC', rfl, hnC⟩ := fuel hnC
    obtain ⟨nR', rfl, hnR⟩ := fuel hnR
    obtain ⟨v, v1, v2⟩ := few_rel (x2 := x1) hN h (show t < Z 1 by omega)
    rw [fX11_coal_13, h.sp.1, if_pos hlo, e1, if_neg (zle (by omega) (by omega) (by omega)), if_neg (show ¬ ((6 : Int32) ≤ zN t) from zle (a := 6) (by omega) (by omega) (by omega)), v1, b_some, fX12_coal_18, e2, if_neg (zle (by omega) (by omega) (by omega)), v2, b_some, zN_s]
    by_cases q : 0 ≤ v
    · rw [if_pos q, if_pos q]
      exact ih (t + 1) nC' nR' (x2 + v) (by omega) (by omega) (by omega)
    · rw [if_neg q, if_neg q]
      exact ⟨_, rfl, rfl⟩
theorem op18 {N : Nat} (hN : 100 ≤ N) : OP18 Inv N := by
  intro mC mR x1 ⟨Z, o, nt, nu, nf, h⟩
  have h := h.th 0
  have hz := h.od.zb
  unfold fX11_coal fX12_coal
  generalize mI mR 99 0 (0 : Int32) = R at h ⊢
  obtain ⟨v, v1, v2, v3⟩ := deg_rel x1 mC R
  rw [v1, v2, b_some, b_some]
  rcases v3 with rfl | rfl
  · rw [if_pos rfl, if_pos rfl]
    exact ⟨_, _, rfl, rfl, h.i⟩
  · rw [if_neg z10, if_neg z10]
    obtain ⟨v, v1, v2⟩ := coal_in (x1 := x1) hN h (Z 1) 0 N N (0 : Int32) (by omega) (by omega) (by omega)
    exact ⟨v, R, v1, v2, h.i⟩
theorem tells_in {Z : Nat → Nat} {N o nt nu nf t : Nat} (hN : 100 ≤ N) (ht : t < Z 1) : ∀ rem k nC nR x2 mC mR, InvZ Z o nt nu nf mC mR → k + rem = Z 0 → rem < nC → rem < nR → ∃ v mC' mR', fX11_tells_17 N nC (zN t) x2 (zN k) mC = some (v, mC') ∧ fX12_tells_19 N nR (zN t) x2 (zN k) mR = some (v, mR') ∧ InvZ Z o nt nu nf mC' mR' := by
  intro rem
  induction rem with
  | zero =>
    intro k nC nR x2 mC mR h hb hnC hnR
    have hlo := h.lo
    have hz := h.od.zb
    have e1 : mC.1 (o + 1) 2 = zN (Z 0) := h.od.sC 0 (by omega)
    have e2 : mR.1 101 0 = zN (Z 0) := h.od.sR 0 (by omega)
    obtain ⟨nC', rfl, _⟩ := fuel hnC
    obtain ⟨nR', rfl, _⟩ := fuel hnR
    rw [fX11_tells_17, h.sp.1, if_pos hlo, e1, if_pos (zle' (by omega) (by omega) (by omega)), if_pos hlo, fX12_tells_19, e2, if_pos (zle' (by omega) (by omega) (by omega))]
    exact ⟨_, _, _, rfl, rfl, h⟩
  | succ rem ih =>
    intro k nC nR x2 mC mR h hb hnC hnR
    have hlo := h.lo
    have hz := h.od.zb
    have e1 : mC.1 (o + 1) 2 = zN (Z 0) := h.od.sC 0 (by omega)
    have e2 : mR.1 101 0 = zN (Z 0) := h.od.sR 0 (by omega)
    obtain ⟨nC', rfl, hnC⟩ := fuel hnC
    obtain ⟨nR', rfl, hnR⟩ := fuel hnR
    obtain ⟨e, C1, R1, p1, p2, p3, p4, p5⟩ := ease_rel (s := 0) (st := (0 : Int32)) hN h.od h.nw (show k < Z 0 by omega) ht
    have h1 := h.sc p4 p5
    rw [fX11_tells_17, h.sp.1, if_pos hlo, e1, if_neg (zle (by omega) (by omega) (by omega)), if_pos hlo, p1, b_some, fX12_tells_19, e2, if_neg (zle (by omega) (by omega) (by omega)), show fX12_isAtEase N (0 : Int32) (zN k) (zN t) (0 : Int32) mR = some (e, R1) from p2, b_some, zN_s]
    dsimp only
    rcases p3 with rfl | rfl
    · rw [if_pos rfl, if_pos rfl, Int32.add_zero]
      exact ih (k + 1) nC' nR' x2 C1 R1 h1 (by omega) (by omega) (by omega)
    · rw [if_neg z10, if_neg z10]
      exact ih (k + 1) nC' nR' (x2 + 1) C1 R1 h1 (by omega) (by omega) (by omega)
theorem op22 {N : Nat} (hN : 100 ≤ N) : OP22 Inv N := by
  intro mC mR x1 ⟨Z, o, nt, nu, nf, h⟩
  have h := h.th 0
  have hlo := h.lo
  have hz := h.od.zb
  unfold fX11_tells fX12_tells
  generalize mI mR 99 0 (0 : Int32) = R at h ⊢
  rw [h.sp.1, if_pos hlo]
  rcases tub_dec h.od x1 with ⟨t, t1, rfl, t3, t4⟩ | ⟨t3, t4⟩
  · rw [t3, t4, b_some, b_some, if_neg z10, if_neg z10]
    obtain ⟨v, C1, R1, v1, v2, v3⟩ := tells_in hN t1 (Z 0) 0 N N (0 : Int32) mC R h (by omega) (by omega) (by omega)
    exact ⟨v, C1, R1, v1, v2, v3.i⟩
  · rw [t3, t4, b_some, b_some, if_pos rfl, if_pos rfl]
    exact ⟨_, _, _, rfl, rfl, h.i⟩
theorem isRest_rel {Z : Nat → Nat} {o nt nu nf a b : Nat} {mC mR : Mem} (h : InvZ Z o nt nu nf mC mR) (ha : a < Z 0) (hb : b < Z 0) (x3 : Int32) : ∃ v, fX11_isRest (zN a) (zN b) x3 mC = some v ∧ fX12_isRest (zN a) (zN b) x3 mR = some v ∧ (v = 0 ∨ v = 1) := by
  have hlo := h.lo
  have hz := h.od.zb
  have rk : ∀ k, k < Z 0 → fX6_rankOf o (zN k) mC = some (mR.1 104 k) := by
    intro k k1
    unfold fX6_rankOf
    rw [show (2 : Int32) = zN 2 from rfl, cell_eq (n := 18) h.od.lay.1 (by omega) (by omega), b_some]
    exact congrArg some (h.od.rw 0 k 2 (by omega) k1 (by omega))
  have G : ∀ k (x y : Int32), k < Z 0 → ∃ v, fX11_gain (mR.1 104 k) x y mC = some v ∧ fX12_hasOf (zN k) x y mR = some v := by
    intro k x y hk
    unfold fX11_gain fX12_hasOf
    rw [g_in (by omega) (by omega), zN_cl (by omega)]
    by_cases q : x = 0
    · rw [if_pos q]
      by_cases q : y = 0
      · rw [if_pos q]
        exact ⟨_, rfl, rfl⟩
      · rw [if_neg q]
        exact ⟨_, rfl, rfl⟩
    · rw [if_neg q]
      by_cases q : y = 0
      · rw [if_pos q]
        exact ⟨_, rfl, rfl⟩
      · rw [if_neg q]
        exact ⟨_, rfl, rfl⟩
  unfold fX11_isRest fX12_isRest
  obtain ⟨g1, a1, b1⟩ := G a (x3 / 2) (jrem x3 2) ha
  obtain ⟨g2, a2, b2⟩ := G a (1 - x3 / 2) (jrem x3 2) ha
  obtain ⟨g3, a3, b3⟩ := G b (jrem x3 2) (x3 / 2) hb
  obtain ⟨g4, a4, b4⟩ := G b (1 - jrem x3 2) (x3 / 2) hb
  rw [h.sp.1, if_pos hlo, rk a ha, b_some, if_pos hlo, rk b hb, b_some, a1, a2, a3, a4, b1, b2, b3, b4]
  simp only [b_some]
  by_cases q : g1 < g2
  · rw [if_pos q]
    exact ⟨_, rfl, rfl, Or.inl rfl⟩
  · rw [if_neg q]
    by_cases q : g3 < g4
    · rw [if_pos q]
      exact ⟨_, rfl, rfl, Or.inl rfl⟩
    · rw [if_neg q]
      exact ⟨_, rfl, rfl, Or.inr rfl⟩
theorem two_rel {Z : Nat → Nat} {o nt nu nf : Nat} {mC mR : Mem} (h : InvZ Z o nt nu nf mC mR) (x y : Int32) : (fX11_areTwo x y mC = some 0 ∧ fX12_areTwo x y mR = some 0) ∨ (fX11_areTwo x y mC = some 1 ∧ fX12_areTwo x y mR = some 1 ∧ ∃ a b, a < Z 0 ∧ b < Z 0 ∧ x = zN a ∧ y = zN b) := by
  have hlo := h.lo
  unfold fX11_areTwo fX12_areTwo
  rw [h.sp.1, if_pos hlo, if_pos hlo]
  rcases kni_dec h.od x with ⟨k, k1, rfl, k3, k4⟩ | ⟨k3, k4⟩
  · rw [k3, k4, b_some, b_some, if_neg z10, if_neg z10]
    rcases kni_dec h.od y with ⟨j, j1, rfl, j3, j4⟩ | ⟨j3, j4⟩
    · rw [j3, j4, b_some, if_neg z10]
      by_cases q : zN k = zN j
      · rw [if_pos q]
        exact Or.inl ⟨rfl, rfl⟩
      · rw [if_neg q]
        exact Or.inr ⟨rfl, rfl, k, j, k1, j1, rfl, rfl⟩
    · rw [j3, j4, b_some, if_pos rfl]
      exact Or.inl ⟨rfl, rfl⟩
  · rw [k3, k4, b_some, b_some, if_pos rfl, if_pos rfl]
    exact Or.inl ⟨rfl, rfl⟩
theorem op23 {N : Nat} (hN : 100 ≤ N) : OP23 Inv N := by
  intro mC mR x1 x2 ⟨Z, o, nt, nu, nf, h⟩
  have h := h.th 0
  unfold fX11_rests fX12_rests
  generalize mI mR 99 0 (0 : Int32) = R at h ⊢
  rcases two_rel h x1 x2 with ⟨t1, t2⟩ | ⟨t1, t2, a, b, ha, hb, rfl, rfl⟩
  · rw [t1, t2, b_some, b_some, if_pos rfl, if_pos rfl]
    exact ⟨_, _, rfl, rfl, h.i⟩
  · rw [t1, t2, b_some, b_some, if_neg z10, if_neg z10]
    obtain ⟨v0, p0, q0, r0⟩ := isRest_rel h ha hb 0
    obtain ⟨v1, p1, q1, r1⟩ := isRest_rel h ha hb 1
    obtain ⟨v2, p2, q2, r2⟩ := isRest_rel h ha hb 2
    obtain ⟨v3, p3, q3, r3⟩ := isRest_rel h ha hb 3
    obtain ⟨n, rfl⟩ : ∃ n, N = n + 10 := ⟨N - 10, by omega⟩
    have key : ∃ v, fX11_restsUpTo (n + 10) (zN a) (zN b) 4 mC = some v ∧ fX12_restOf (n + 10) (zN a) (zN b) (-1) R = some v := by
      unfold fX11_restsUpTo fX12_restOf
      rcases r0 with rfl | rfl <;> rcases r1 with rfl | rfl <;> rcases r2 with rfl | rfl <;> rcases r3 with rfl | rfl <;> simp [fX11_restsUpTo_6, fX12_restOf_6, p0, p1, p2, p3, q0, q1, q2, q3]
    obtain ⟨v, k1, k2⟩ := key
    rw [k1, k2, b_some, b_some]
    exact ⟨v, R, rfl, rfl, h.i⟩
theorem op24 {N : Nat} (hN : 100 ≤ N) : OP24 Inv N := by
  intro mC mR x1 x2 x3 ⟨Z, o, nt, nu, nf, h⟩
  have h := h.th 0
  unfold fX11_rest fX12_rest
  generalize mI mR 99 0 (0 : Int32) = R at h ⊢
  rcases two_rel h x1 x2 with ⟨t1, t2⟩ | ⟨t1, t2, a, b, ha, hb, rfl, rfl⟩
  · rw [t1, t2, b_some, b_some, if_pos rfl, if_pos rfl]
    exact ⟨_, _, rfl, rfl, h.i⟩
  · rw [t1, t2, b_some, b_some, if_neg z10, if_neg z10]
    by_cases z : x3 < 0
    · rw [if_pos z, if_neg (Int32.not_le.mpr z)]
      exact ⟨_, _, rfl, rfl, h.i⟩
    rw [if_neg z, if_pos (Int32.not_lt.mp z)]
    have z1 : x3 ≠ -1 := fun e => z (by rw [e]; decide)
    obtain ⟨v0, p0, q0, r0⟩ := isRest_rel h ha hb 0
    obtain ⟨v1, p1, q1, r1⟩ := isRest_rel h ha hb 1
    obtain ⟨v2, p2, q2, r2⟩ := isRest_rel h ha hb 2
    obtain ⟨v3, p3, q3, r3⟩ := isRest_rel h ha hb 3
    obtain ⟨n, rfl⟩ : ∃ n, N = n + 10 := ⟨N - 10, by omega⟩
    have key : ∃ v, fX11_rest_18 (n + 10) (n + 10) (zN a) (zN b) x3 0 mC = some v ∧ fX12_restOf (n + 10) (zN a) (zN b) x3 R = some v := by
      unfold fX12_restOf
      rcases r0 with rfl | rfl <;> rcases r1 with rfl | rfl <;> rcases r2 with rfl | rfl <;> rcases r3 with rfl | rfl <;> simp [fX11_rest_18, fX11_restsUpTo, fX11_restsUpTo_6, fX12_restOf_6, p0, p1, p2, p3, q0, q1, q2, q3, z1] <;> (repeat' split) <;> simp_all
    obtain ⟨v, k1, k2⟩ := key
    rw [k1, k2, b_some]
    exact ⟨v, R, rfl, rfl, h.i⟩
