/-! calls that only look -/
theorem InvZ.lo {Z : Nat → Nat} {o nt nu nf : Nat} {mC mR : Mem} (h : InvZ Z o nt nu nf mC mR) : lay o = (0, 6) := by
  rcases h.od.ho with rfl | rfl <;> rfl
theorem InvZ.i {Z : Nat → Nat} {o nt nu nf : Nat} {mC mR : Mem} (h : InvZ Z o nt nu nf mC mR) : Inv mC mR := ⟨Z, o, nt, nu, nf, h⟩
theorem tub_dec {Z : Nat → Nat} {o : Nat} {mC mR : Mem} (h : OrdR Z o mC mR) (x : Int32) : (∃ t, t < Z 1 ∧ x = zN t ∧ fX6_hasTub o x mC = some 1 ∧ fX12_isTub x mR = some 1) ∨ (fX6_hasTub o x mC = some 0 ∧ fX12_isTub x mR = some 0) := by
  have hz := h.zb
  have e1 : mC.1 (o + 3) 2 = zN (Z 1) := h.sC 1 (by omega)
  have e2 : mR.1 101 1 = zN (Z 1) := h.sR 1 (by omega)
  unfold fX6_hasTub fX12_isTub
  rw [e1, e2]
  rcases zN_or x with q | ⟨n, hn, rfl⟩
  · rw [if_pos q, if_pos q]
    exact Or.inr ⟨rfl, rfl⟩
  · rw [if_neg (znn hn), if_neg (znn hn)]
    by_cases q : n < Z 1
    · rw [if_neg (zle (by omega) (by omega) q), if_neg (show ¬ ((6 : Int32) ≤ zN n) from zle (a := 6) (by omega) (by omega) (by omega)), if_neg (zle (by omega) (by omega) q)]
      exact Or.inl ⟨n, q, rfl, rfl, rfl⟩
    · rw [if_pos (zle' (by omega) (by omega) (by omega)), if_pos (zle' (by omega) (by omega) (by omega))]
      exact Or.inr ⟨rfl, rfl⟩
theorem kni_dec {Z : Nat → Nat} {o : Nat} {mC mR : Mem} (h : OrdR Z o mC mR) (x : Int32) : (∃ t, t < Z 0 ∧ x = zN t ∧ fX6_hasKnight o x mC = some 1 ∧ fX12_isKnight x mR = some 1) ∨ (fX6_hasKnight o x mC = some 0 ∧ fX12_isKnight x mR = some 0) := by
  have hz := h.zb
  have e1 : mC.1 (o + 1) 2 = zN (Z 0) := h.sC 0 (by omega)
  have e2 : mR.1 101 0 = zN (Z 0) := h.sR 0 (by omega)
  unfold fX6_hasKnight fX12_isKnight
  rw [e1, e2]
  rcases zN_or x with q | ⟨n, hn, rfl⟩
  · rw [if_pos q, if_pos q]
    exact Or.inr ⟨rfl, rfl⟩
  · rw [if_neg (znn hn), if_neg (znn hn)]
    by_cases q : n < Z 0
    · rw [if_neg (zle (by omega) (by omega) q), if_neg (show ¬ ((6 : Int32) ≤ zN n) from zle (a := 6) (by omega) (by omega) (by omega)), if_neg (zle (by omega) (by omega) q)]
      exact Or.inl ⟨n, q, rfl, rfl, rfl⟩
    · rw [if_pos (zle' (by omega) (by omega) (by omega)), if_pos (zle' (by omega) (by omega) (by omega))]
      exact Or.inr ⟨rfl, rfl⟩
theorem z10 : ¬ ((1 : Int32) = 0) := by decide
theorem find_rel {N x0 r f c n : Nat} {x : Int32} {mC mR : Mem} (hl : lay (x0 + 1) = (1, n)) (hn : n ≤ 1000) (hc : 3 * c ≤ n) (hr : f + c ≤ (lay r).2 ∧ (lay r).2 ≤ 1000) (hf : f ≤ 1000) (e1 : mC.1 x0 2 = zN c) (e : ∀ k, k < c → mC.1 (x0 + 1) (3 * k) = mR.1 r (f + k)) : ∀ rem k nC nR, k + rem = c → rem < nC → rem < nR → ∃ v, fX9_find_2 N nC x0 x (zN k) mC = some v ∧ fX12_found_3 N nR r (zN f) (zN c) x (zN k) mR = some v ∧ ((v = -1 ∧ ∀ j, k ≤ j → j < c → mR.1 r (f + j) ≠ x) ∨ ∃ j, j < c ∧ v = zN j ∧ mR.1 r (f + j) = x) := by
  intro rem
  induction rem with
  | zero =>
    intro k nC nR hk hnC hnR
    obtain ⟨nC', rfl, _⟩ := fuel hnC
    obtain ⟨nR', rfl, _⟩ := fuel hnR
    rw [fX9_find_2, e1, if_pos (zle' (by omega) (by omega) (by omega)), fX12_found_3, if_pos (zle' (by omega) (by omega) (by omega))]
    exact ⟨-1, rfl, rfl, Or.inl ⟨rfl, fun j a b => absurd b (by omega)⟩⟩
  | succ rem ih =>
    intro k nC nR hk hnC hnR
    obtain ⟨nC', rfl, hnC⟩ := fuel hnC
    obtain ⟨nR', rfl, hnR⟩ := fuel hnR
    have hcl : fX9_cell x0 (zN k) (0 : Int32) mC = some (mC.1 (x0 + 1) (3 * k)) := cell_eq (c := 0) hl hn (by omega)
    rw [fX9_find_2, e1, if_neg (zle (by omega) (by omega) (by omega)), hcl, b_some, e k (by omega), zN_s, fX12_found_3, if_neg (zle (by omega) (by omega) (by omega)), zN_add, g_in (by omega) (by omega), zN_cl (by omega), zN_s]
    by_cases q : mR.1 r (f + k) = x
    · rw [if_pos q, if_pos q]
      exact ⟨zN k, rfl, rfl, Or.inr ⟨k, by omega, rfl, q⟩⟩
    · rw [if_neg q, if_neg q]
      obtain ⟨v, v1, v2, v3⟩ := ih (k + 1) nC' nR' (by omega) (by omega) (by omega)
      refine ⟨v, v1, v2, ?_⟩
      rcases v3 with ⟨v3, v4⟩ | v3
      · refine Or.inl ⟨v3, fun j a b => ?_⟩
        by_cases z : j = k
        · rw [z]
          exact q
        · exact v4 j (by omega) b
      · exact Or.inr v3
theorem op3 {N : Nat} (hN : 100 ≤ N) : OP3 Inv N := by
  intro mC mR x1 x2 ⟨Z, o, nt, nu, nf, h⟩
  have h := h.th 0
  have hlo := h.lo
  have hz := h.od.zb
  unfold fX11_named fX12_named
  generalize mI mR 99 0 (0 : Int32) = R at h ⊢
  rw [h.sp.1, if_pos hlo]
  have K0 := find_rel (N := N) (x0 := o + 1) (r := 102) (f := 0) (c := Z 0) (n := 18) (x := x2) (mC := mC) (mR := R) h.od.lay.1 (by omega) (by omega) (by rw [show (lay 102).2 = 12 from rfl]; omega) (by omega) (h.od.sC 0 (by omega)) (fun k hk => by rw [Nat.zero_add]; exact h.od.rw 0 k 0 (by omega) hk (by omega)) (Z 0) 0 N N (by omega) (by omega) (by omega)
  have K1 := find_rel (N := N) (x0 := o + 3) (r := 105) (f := 0) (c := Z 1) (n := 18) (x := x2) (mC := mC) (mR := R) h.od.lay.2.1 (by omega) (by omega) (by rw [show (lay 105).2 = 12 from rfl]; omega) (by omega) (h.od.sC 1 (by omega)) (fun k hk => by rw [Nat.zero_add]; exact h.od.rw 1 k 0 (by omega) hk (by omega)) (Z 1) 0 N N (by omega) (by omega) (by omega)
  obtain ⟨v0, a1, a2, a3⟩ := K0
  obtain ⟨v1, b1, b2, b3⟩ := K1
  unfold fX9_find fX12_found
  rw [show R.1 101 0 = zN (Z 0) from h.od.sR 0 (by omega), show R.1 101 1 = zN (Z 1) from h.od.sR 1 (by omega)]
  by_cases q0 : x1 = 0
  · rw [if_pos q0, if_pos q0, show fX9_find_2 N N (o + 1) x2 (0 : Int32) mC = some v0 from a1, show fX12_found_3 N N 102 (0 : Int32) (zN (Z 0)) x2 (0 : Int32) R = some v0 from a2]
    exact ⟨v0, R, rfl, rfl, h.i⟩
  · rw [if_neg q0, if_neg q0]
    by_cases q1 : x1 = 1
    · rw [if_pos q1, if_pos q1, if_pos hlo, show fX9_find_2 N N (o + 3) x2 (0 : Int32) mC = some v1 from b1, show fX12_found_3 N N 105 (0 : Int32) (zN (Z 1)) x2 (0 : Int32) R = some v1 from b2]
      exact ⟨v1, R, rfl, rfl, h.i⟩
    · rw [if_neg q1, if_neg q1]
      exact ⟨-1, R, rfl, rfl, h.i⟩
theorem who_0 {Z : Nat → Nat} {N o t : Nat} {mC mR : Mem} (hN : 100 ≤ N) (hO : OrdR Z o mC mR) (hB : BathR Z 43 0 mC mR) (ht : t < Z 1) : ∃ v, fX12_whoIn N (0 : Int32) (zN t) mR = some v ∧ fX12_orNone v mR = some (mC.1 46 t) ∧ ((v = -1 ∧ mC.1 46 t = -2) ∨ ∃ k, k < Z 0 ∧ v = zN k ∧ mC.1 46 t = zN k) := by
  have hz := hO.zb
  rcases who_rel hN hO hB ht with ⟨h1, h2⟩ | ⟨k, h1, h2, h3⟩
  · refine ⟨-1, h2, ?_, Or.inl ⟨rfl, h1⟩⟩
    unfold fX12_orNone
    rw [if_pos rfl]
    exact congrArg some h1.symm
  · refine ⟨zN k, h3, ?_, Or.inr ⟨k, h1, rfl, h2⟩⟩
    unfold fX12_orNone
    rw [if_neg (show ¬ (zN k = (-1 : Int32)) from by rw [zN_m1 (by omega)]; exact id)]
    exact congrArg some h2.symm
theorem op4 {N : Nat} (hN : 100 ≤ N) : OP4 Inv N := by
  intro mC mR x1 x2 ⟨Z, o, nt, nu, nf, h⟩
  have hlo := h.lo
  have hz := h.od.zb
  unfold fX11_tub fX12_tub
  rw [h.sp.1, if_pos hlo]
  have T : ∀ y0 : Int32, y0 ≠ 0 → fX12_tub_27 N x1 x2 y0 mR = some (0, mI mR 99 0 y0) := by
    intro y0 hy
    unfold fX12_tub_27
    rw [mI_s ⟨rfl, rfl⟩, if_neg hy]
  rcases tub_dec h.od x1 with ⟨t, t1, rfl, t3, t4⟩ | ⟨t3, t4⟩
  · rw [t3, t4, b_some, b_some, if_neg z10, if_neg z10]
    have h0 := h.th 0
    have E : fX12_tub_27 N (zN t) x2 (0 : Int32) mR = (if x2 = 0 then some (mC.1 44 t, mI mR 99 0 0) else if x2 = 1 then some (mC.1 45 t, mI mR 99 0 0) else some (mC.1 46 t, mI mR 99 0 0)) := by
      unfold fX12_tub_27
      rw [mI_s ⟨rfl, rfl⟩, if_pos rfl]
      generalize mI mR 99 0 (0 : Int32) = R at h0 ⊢
      obtain ⟨v, v1, v2, v3⟩ := who_0 hN h0.od h0.nw t1
      rw [g_in (by omega) (by omega), g_in (by omega) (by omega), zN_cl (by omega), v1, b_some, v2, b_some]
      have q0 := h0.nw.eq 0 t (by omega) (by omega)
      have q1 := h0.nw.eq 1 t (by omega) (by omega)
      rw [Nat.mul_zero, Nat.zero_add] at q0 q1
      rw [show R.1 126 t = mC.1 44 t from q0.symm, show R.1 127 t = mC.1 45 t from q1.symm]
    have th : fX12_thrown (mI mR 99 0 0) = some 0 := by
      unfold fX12_thrown
      rw [mI_s ⟨rfl, rfl⟩]
    rw [g_in (by omega) (by omega), g_in (by omega) (by omega), g_in (by omega) (by omega), zN_cl (by omega)]
    by_cases a0 : x2 = 0
    · subst a0
      rw [if_pos rfl, if_neg (by decide), if_pos (by decide), E, if_pos rfl]
      exact ⟨0, _, _, _, rfl, rfl, th, fun _ => rfl, h0.i⟩
    · rw [if_neg a0]
      by_cases a1 : x2 = 1
      · subst a1
        rw [if_pos rfl, if_neg (by decide), if_pos (by decide), E, if_neg (by decide), if_pos rfl]
        exact ⟨0, _, _, _, rfl, rfl, th, fun _ => rfl, h0.i⟩
      · rw [if_neg a1]
        by_cases a2 : x2 = 2
        · subst a2
          rw [if_pos rfl, if_neg (by decide), if_pos (by decide), E, if_neg (by decide), if_neg (by decide)]
          exact ⟨0, _, _, _, rfl, rfl, th, fun _ => rfl, h0.i⟩
        · rw [if_neg a2]
          have B : (if x2 < 0 then fX12_tub_22 N (zN t) x2 mR else if x2 ≤ (2 : Int32) then fX12_tub_27 N (zN t) x2 (0 : Int32) mR else fX12_tub_22 N (zN t) x2 mR) = some (0, mI mR 99 0 2) := by
            unfold fX12_tub_22
            rw [T 2 (by decide)]
            by_cases w : x2 < 0
            · rw [if_pos w]
            · rw [if_neg w, if_neg]
              intro z
              rcases zN_or x2 with y | ⟨n, hn, rfl⟩
              · exact w y
              · have z : zN n ≤ zN 2 := z
                rw [zN_le hn (by omega)] at z
                rcases (show n = 0 ∨ n = 1 ∨ n = 2 by omega) with rfl | rfl | rfl
                · exact a0 rfl
                · exact a1 rfl
                · exact a2 rfl
          rw [B]
          refine ⟨2, 0, 0, mI mR 99 0 2, rfl, rfl, ?_, fun _ => rfl, (h.th 2).i⟩
          unfold fX12_thrown
          rw [mI_s ⟨rfl, rfl⟩]
  · rw [t3, t4, b_some, b_some, if_pos rfl, if_pos rfl, T 1 (by decide)]
    refine ⟨1, 0, 0, _, rfl, rfl, ?_, fun _ => rfl, (h.th 1).i⟩
    unfold fX12_thrown
    rw [mI_s ⟨rfl, rfl⟩]
theorem op5 {N : Nat} : OP5 Inv N := by
  intro mC mR x1 x2 ⟨Z, o, nt, nu, nf, h⟩
  have h := h.th 0
  have hlo := h.lo
  have hz := h.od.zb
  unfold fX11_knight fX12_knight
  generalize mI mR 99 0 (0 : Int32) = R at h ⊢
  rw [h.sp.1, if_pos hlo]
  rcases kni_dec h.od x1 with ⟨k, k1, rfl, k3, k4⟩ | ⟨k3, k4⟩
  · rw [k3, k4, b_some, b_some, if_neg z10, if_neg z10, if_pos hlo]
    have hrk : fX6_rankOf o (zN k) mC = some (R.1 104 k) := by
      unfold fX6_rankOf
      rw [show (2 : Int32) = zN 2 from rfl, cell_eq (n := 18) h.od.lay.1 (by omega) (by omega), b_some]
      exact congrArg some (h.od.rw 0 k 2 (by omega) k1 (by omega))
    have q : ∀ j, j < 7 → mC.1 (43 + pc j) k = R.1 (pr j) k := by
      intro j hj
      have q := h.nw.eq j k hj (by omega)
      rw [Nat.mul_zero, Nat.zero_add] at q
      exact q
    have hp : fX12_orNone (R.1 129 k) R = some (mC.1 48 k) := by
      unfold fX12_orNone
      have q := h.nw.pl k (by omega)
      rw [Nat.mul_zero, Nat.zero_add] at q
      rcases q with ⟨p1, p2⟩ | ⟨p0, t, p1, p2, p3, p4⟩
      · rw [p2, if_pos rfl]
        exact congrArg some p1.symm
      · rw [p3, if_neg (show ¬ (zN t = (-1 : Int32)) from by rw [zN_m1 (by omega)]; exact id)]
        exact congrArg some p2.symm
    simp (disch := omega) only [hrk, b_some, g_in, zN_cl, hp, zN_neg, nle_f, or_false, ↓reduceIte]
    rw [show mC.1 47 k = R.1 128 k from q 2 (by omega), show mC.1 49 k = R.1 131 k from q 4 (by omega), show mC.1 50 k = R.1 132 k from q 5 (by omega), show mC.1 51 k = R.1 130 k from q 3 (by omega), show mC.1 52 k = R.1 133 k from q 6 (by omega)]
    by_cases a0 : x2 = 0
    · rw [if_pos a0, if_pos a0]
      exact ⟨_, _, rfl, rfl, h.i⟩
    rw [if_neg a0, if_neg a0]
    by_cases a0 : x2 = 1
    · rw [if_pos a0, if_pos a0]
      exact ⟨_, _, rfl, rfl, h.i⟩
    rw [if_neg a0, if_neg a0]
    by_cases a0 : x2 = 2
    · rw [if_pos a0, if_pos a0]
      exact ⟨_, _, rfl, rfl, h.i⟩
    rw [if_neg a0, if_neg a0]
    by_cases a0 : x2 = 3
    · rw [if_pos a0, if_pos a0]
      exact ⟨_, _, rfl, rfl, h.i⟩
    rw [if_neg a0, if_neg a0]
    by_cases a0 : x2 = 4
    · rw [if_pos a0, if_pos a0]
      exact ⟨_, _, rfl, rfl, h.i⟩
    rw [if_neg a0, if_neg a0]
    by_cases a0 : x2 = 5
    · rw [if_pos a0, if_pos a0]
      exact ⟨_, _, rfl, rfl, h.i⟩
    rw [if_neg a0, if_neg a0]
    by_cases a0 : x2 = 6
    · rw [if_pos a0, if_pos a0]
      exact ⟨_, _, rfl, rfl, h.i⟩
    rw [if_neg a0, if_neg a0]
    exact ⟨_, _, rfl, rfl, h.i⟩
  · rw [k3, k4, b_some, b_some, if_pos rfl, if_pos rfl]
    exact ⟨_, _, rfl, rfl, h.i⟩
/-- scratch alone was touched -/
theorem InvZ.sc {Z : Nat → Nat} {o nt nu nf : Nat} {mC mR mC' mR' : Mem} (h : InvZ Z o nt nu nf mC mR) (hC : SC o mC mC') (hR : SR mR mR') : InvZ Z o nt nu nf mC' mR' := by
  have ho := h.od.o25
  exact h.cong (fun c k _ => by rw [hC.1]) (fun c q => hC.2.2 c 11 (by omega) (by omega)) hC.2.1 (fun c k q => by unfold KR at q; exact hR c k (by omega))
theorem op6 {N : Nat} (hN : 100 ≤ N) : OP6 Inv N := by
  intro mC mR x1 x2 ⟨Z, o, nt, nu, nf, h⟩
  have h := h.th 0
  have hlo := h.lo
  unfold fX11_atEase fX12_atEase
  generalize mI mR 99 0 (0 : Int32) = R at h ⊢
  rw [h.sp.1, if_pos hlo, if_pos hlo, if_pos hlo]
  rcases kni_dec h.od x1 with ⟨k, k1, rfl, k3, k4⟩ | ⟨k3, k4⟩
  · rw [k3, k4, b_some, b_some, if_neg z10, if_neg z10]
    rcases tub_dec h.od x2 with ⟨t, t1, rfl, t3, t4⟩ | ⟨t3, t4⟩
    · rw [t3, t4, b_some, b_some, if_neg z10, if_neg z10]
      obtain ⟨e, C1, R1, p1, p2, p3, p4, p5⟩ := ease_rel (s := 0) (st := (0 : Int32)) hN h.od h.nw k1 t1
      rw [p1, show fX12_isAtEase N (0 : Int32) (zN k) (zN t) (0 : Int32) R = some (e, R1) from p2, b_some, b_some]
      dsimp only
      have h1 := h.sc p4 p5
      rcases p3 with rfl | rfl
      · rw [if_pos rfl, if_pos rfl]
        exact ⟨_, _, _, rfl, rfl, h1.i⟩
      · rw [if_neg z10, if_neg z10]
        exact ⟨_, _, _, rfl, rfl, h1.i⟩
    · rw [t3, t4, b_some, b_some, if_pos rfl, if_pos rfl]
      exact ⟨_, _, _, rfl, rfl, h.i⟩
  · rw [k3, k4, b_some, b_some, if_pos rfl, if_pos rfl]
    exact ⟨_, _, _, rfl, rfl, h.i⟩
