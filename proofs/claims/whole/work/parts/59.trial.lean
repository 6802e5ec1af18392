/-! what comes, tried in the trial baths -/
theorem goes_rel {Z : Nat → Nat} {N o n : Nat} {mC mR : Mem} (hN : 1000 ≤ N) (hn : n ≤ 200) (hO : OrdR Z o mC mR) (hB : BathR Z 53 1 mC mR) (hM : MdR mC mR 0) : ∃ M M', fX5_passMany N o 53 (zN n) mC = some M ∧ fX12_goesOn N (zN n) mR = some M' ∧ BathR Z 53 1 M M' ∧ FC o 53 mC M ∧ FR 1 mR M' := by
  unfold fX5_passMany fX12_goesOn
  obtain ⟨M, M', r1, r2, r3, r4, r5, r6, r7⟩ := run_rel (F := fun f x q => fX12_goesOn_2 N f (zN n) x q) (K := fun q => some q) (N := N) (s := 1) (cnt := n) (yn := 0) (by omega) (by omega) (fun f x q e => by rw [fX12_goesOn_2, if_pos e]) (fun f x q e => by rw [fX12_goesOn_2, if_neg e]; rfl) n 0 N N mC mR (by omega) (by omega) (by omega) hO hB hM
  exact ⟨M, M', r1, r2, r4, r6, r7⟩
theorem z6a (k : Nat) : (6 : Int32) + zN k = zN (6 * 1 + k) := zN_add 6 k
theorem ahead_in {Z : Nat → Nat} {N o nt nu nf n w : Nat} {x3 : Int32} {mC R : Mem} (hN : 1000 ≤ N) (hn : n ≤ 200) (hw : w ≤ 4) (h : InvZ Z o nt nu nf mC R) (h1 : w ≤ 1 → ∃ t, t < Z 1 ∧ x3 = zN t) (h2 : w = 2 ∨ w = 3 → ∃ k, k < Z 0 ∧ x3 = zN k) : ∃ r M M', fX11_ahead_61 N (zN n) (zN w) x3 mC = some (r, M) ∧ fX12_ahead_58 N (zN n) (zN w) x3 R = some (r, M') ∧ Inv M M' := by
  have hz := h.od.zb
  have ho := h.od.o25
  obtain ⟨M, M', a1, a2, a3, a4, a5, a6, a7, _⟩ := try_rel (N := N) (by omega) h
  have I := h.t a6 a7
  obtain ⟨P, P', b1, b2, b3, b4, b5⟩ := goes_rel hN hn a3 a4 a5
  have J := I.t (b4.t (by omega)) b5.t
  unfold fX11_ahead_61 fX12_ahead_58
  rw [a1, a2, b_some, b_some, I.sp.1, if_pos I.lo, b1, b2, b_some, b_some]
  have hw : w = 0 ∨ w = 1 ∨ w = 2 ∨ w = 3 ∨ w = 4 := by omega
  rcases hw with rfl | rfl | rfl | rfl | rfl
  · obtain ⟨t, t1, rfl⟩ := h1 (by omega)
    rw [if_pos (show zN 0 = (0 : Int32) from rfl), if_pos (show zN 0 = (0 : Int32) from rfl), z6a, g_in (by omega) (by omega), g_in (by omega) (by omega), zN_cl (n := t) (by omega), zN_cl (n := 6 * 1 + t) (by omega)]
    exact ⟨_, _, _, rfl, by rw [show P.1 55 t = P'.1 127 (6 * 1 + t) from b3.eq 1 t (by omega) (by omega)], J.i⟩
  · obtain ⟨t, t1, rfl⟩ := h1 (by omega)
    rw [if_neg (show ¬ (zN 1 = (0 : Int32)) from by decide), if_neg (show ¬ (zN 1 = (0 : Int32)) from by decide), if_pos (show zN 1 = (1 : Int32) from rfl), if_pos (show zN 1 = (1 : Int32) from rfl), z6a, g_in (by omega) (by omega), g_in (by omega) (by omega), zN_cl (n := t) (by omega), zN_cl (n := 6 * 1 + t) (by omega)]
    exact ⟨_, _, _, rfl, by rw [show P.1 54 t = P'.1 126 (6 * 1 + t) from b3.eq 0 t (by omega) (by omega)], J.i⟩
  · obtain ⟨t, t1, rfl⟩ := h2 (by omega)
    rw [if_neg (show ¬ (zN 2 = (0 : Int32)) from by decide), if_neg (show ¬ (zN 2 = (0 : Int32)) from by decide), if_neg (show ¬ (zN 2 = (1 : Int32)) from by decide), if_neg (show ¬ (zN 2 = (1 : Int32)) from by decide), if_pos (show zN 2 = (2 : Int32) from rfl), if_pos (show zN 2 = (2 : Int32) from rfl), z6a, g_in (by omega) (by omega), g_in (by omega) (by omega), zN_cl (n := t) (by omega), zN_cl (n := 6 * 1 + t) (by omega)]
    exact ⟨_, _, _, rfl, by rw [show P.1 59 t = P'.1 131 (6 * 1 + t) from b3.eq 4 t (by omega) (by omega)], J.i⟩
  · obtain ⟨t, t1, rfl⟩ := h2 (by omega)
    rw [if_neg (show ¬ (zN 3 = (0 : Int32)) from by decide), if_neg (show ¬ (zN 3 = (0 : Int32)) from by decide), if_neg (show ¬ (zN 3 = (1 : Int32)) from by decide), if_neg (show ¬ (zN 3 = (1 : Int32)) from by decide), if_neg (show ¬ (zN 3 = (2 : Int32)) from by decide), if_neg (show ¬ (zN 3 = (2 : Int32)) from by decide), if_pos (show zN 3 = (3 : Int32) from rfl), if_pos (show zN 3 = (3 : Int32) from rfl), z6a, g_in (by omega) (by omega), g_in (by omega) (by omega), zN_cl (n := t) (by omega), zN_cl (n := 6 * 1 + t) (by omega)]
    exact ⟨_, _, _, rfl, by rw [show P.1 60 t = P'.1 132 (6 * 1 + t) from b3.eq 5 t (by omega) (by omega)], J.i⟩
  · rw [if_neg (show ¬ (zN 4 = (0 : Int32)) from by decide), if_neg (show ¬ (zN 4 = (0 : Int32)) from by decide), if_neg (show ¬ (zN 4 = (1 : Int32)) from by decide), if_neg (show ¬ (zN 4 = (1 : Int32)) from by decide), if_neg (show ¬ (zN 4 = (2 : Int32)) from by decide), if_neg (show ¬ (zN 4 = (2 : Int32)) from by decide), if_neg (show ¬ (zN 4 = (3 : Int32)) from by decide), if_neg (show ¬ (zN 4 = (3 : Int32)) from by decide)]
    obtain ⟨v, v1, v2⟩ := sum_rel (N := N) (c := 62) (r := 133) (s := 1) (mC := P) (mR := P') (by omega) (by omega) rfl rfl (fun k hk => b3.eq 6 k (by omega) hk)
    obtain ⟨u, u1, u2⟩ := sum_rel (N := N) (c := 52) (r := 133) (s := 0) (mC := P) (mR := P') (by omega) (by omega) rfl rfl (fun k hk => J.nw.eq 6 k (by omega) hk)
    rw [v1, show fX12_sumOf N 133 (1 : Int32) P' = some v from v2, b_some, b_some, u1, show fX12_sumOf N 133 (0 : Int32) P' = some u from u2, b_some, b_some]
    exact ⟨_, _, _, rfl, rfl, J.i⟩
theorem op13 {N : Nat} (hN : 1000 ≤ N) : OP13 Inv N := by
  intro mC mR x1 x2 x3 ⟨Z, o, nt, nu, nf, h⟩
  have h := h.th 0
  have hlo := h.lo
  have hz := h.od.zb
  unfold fX11_ahead fX12_ahead
  generalize mI mR 99 0 (0 : Int32) = R at h ⊢
  rcases rng (x := x1) (hi := 200) (by omega) with q | ⟨q1, q2, _⟩ | ⟨n, n1, rfl, q1, q2, _⟩
  · rw [if_pos q, if_pos q]
    exact ⟨-1, _, _, rfl, rfl, h.i⟩
  · rw [if_neg q1, if_neg q1, if_pos (show (200 : Int32) < x1 from q2), if_pos (show (200 : Int32) < x1 from q2)]
    exact ⟨-1, _, _, rfl, rfl, h.i⟩
  · rw [if_neg q1, if_neg q1, if_neg (show ¬ ((200 : Int32) < zN n) from q2), if_neg (show ¬ ((200 : Int32) < zN n) from q2)]
    rcases rng (x := x2) (hi := 4) (by omega) with q | ⟨q1, q2, q3⟩ | ⟨w, w1, rfl, q1, q2, q3⟩
    · rw [if_pos q, if_pos q]
      exact ⟨-1, _, _, rfl, rfl, h.i⟩
    · rw [if_neg q1, if_neg q1, if_neg (show ¬ (x2 ≤ (4 : Int32)) from q3), if_pos (show (4 : Int32) < x2 from q2)]
      exact ⟨-1, _, _, rfl, rfl, h.i⟩
    · rw [if_neg q1, if_neg q1, if_pos (show zN w ≤ (4 : Int32) from q3), if_neg (show ¬ ((4 : Int32) < zN w) from q2)]
      by_cases e1 : w ≤ 1
      · rw [if_neg (show ¬ ((1 : Int32) < zN w) from zlt (a := 1) (by omega) (by omega) e1), if_neg (show ¬ ((2 : Int32) ≤ zN w) from zle (a := 2) (by omega) (by omega) (by omega)), h.sp.1, if_pos hlo]
        rcases tub_dec h.od x3 with ⟨t, t1, rfl, t3, t4⟩ | ⟨t3, t4⟩
        · rw [t3, t4, b_some, b_some, if_neg z10, if_neg z10]
          unfold fX11_ahead_38 fX12_ahead_38
          rw [if_neg (show ¬ (zN w = (2 : Int32)) from zne (c := 2) (by omega) (by omega) (by omega)), if_neg (show ¬ (zN w = (2 : Int32)) from zne (c := 2) (by omega) (by omega) (by omega)), if_neg (show ¬ (zN w = (3 : Int32)) from zne (c := 3) (by omega) (by omega) (by omega)), if_neg (show ¬ (zN w = (3 : Int32)) from zne (c := 3) (by omega) (by omega) (by omega))]
          exact ahead_in hN n1 w1 h (fun _ => ⟨t, t1, rfl⟩) (fun z => absurd z (by omega))
        · rw [t3, t4, b_some, b_some, if_pos rfl, if_pos rfl]
          exact ⟨-1, _, _, rfl, rfl, h.i⟩
      · rw [if_pos (show (1 : Int32) < zN w from by rw [show (1 : Int32) = zN 1 from rfl, zN_lt (by omega) (by omega)]; omega), if_pos (show (2 : Int32) ≤ zN w from zle' (a := 2) (by omega) (by omega) (by omega))]
        have K : w = 2 ∨ w = 3 → ∃ r M M', fX11_ahead_48 N (zN n) (zN w) x3 mC = some (r, M) ∧ fX12_ahead_48 N (zN n) (zN w) x3 R = some (r, M') ∧ Inv M M' := by
          intro e2
          unfold fX11_ahead_48 fX12_ahead_48
          rw [h.sp.1, if_pos hlo]
          rcases kni_dec h.od x3 with ⟨t, t1, rfl, t3, t4⟩ | ⟨t3, t4⟩
          · rw [t3, t4, b_some, b_some, if_neg z10, if_neg z10]
            exact ahead_in hN n1 w1 h (fun z => absurd z (by omega)) (fun _ => ⟨t, t1, rfl⟩)
          · rw [t3, t4, b_some, b_some, if_pos rfl, if_pos rfl]
            exact ⟨-1, _, _, rfl, rfl, h.i⟩
        unfold fX11_ahead_38 fX12_ahead_38
        by_cases e2 : w = 2
        · rw [if_pos (show zN w = (2 : Int32) from by rw [e2]; rfl), if_pos (show zN w = (2 : Int32) from by rw [e2]; rfl)]
          exact K (Or.inl e2)
        · rw [if_neg (show ¬ (zN w = (2 : Int32)) from zne (c := 2) (by omega) (by omega) (by omega)), if_neg (show ¬ (zN w = (2 : Int32)) from zne (c := 2) (by omega) (by omega) (by omega))]
          by_cases e3 : w = 3
          · rw [if_pos (show zN w = (3 : Int32) from by rw [e3]; rfl), if_pos (show zN w = (3 : Int32) from by rw [e3]; rfl)]
            exact K (Or.inr e3)
          · rw [if_neg (show ¬ (zN w = (3 : Int32)) from zne (c := 3) (by omega) (by omega) (by omega)), if_neg (show ¬ (zN w = (3 : Int32)) from zne (c := 3) (by omega) (by omega) (by omega))]
            exact ahead_in hN n1 w1 h (fun z => absurd z (by omega)) (fun z => absurd z (by omega))
theorem cools_loop {Z : Nat → Nat} {N o nt nu nf t : Nat} {x2 : Int32} (hN : 1000 ≤ N) (ht : t < Z 1) : ∀ rem k nC nR mC mR, k + rem = 200 → rem < nC → rem < nR → InvZ Z o nt nu nf mC mR → BathR Z 53 1 mC mR → MdR mC mR 0 → ∃ r M M', fX11_cools_26 N nC (zN t) x2 (zN k) mC = some (r, M) ∧ fX12_cools_30 N nR (zN t) x2 (zN k) mR = some (r, M') ∧ Inv M M' := by
  intro rem
  induction rem with
  | zero =>
    intro k nC nR mC mR hk h1 h2 h hB hM
    obtain ⟨nC', rfl, _⟩ := fuel h1
    obtain ⟨nR', rfl, _⟩ := fuel h2
    rw [fX11_cools_26, fX12_cools_30, if_pos (show (199 : Int32) < zN k from by rw [show (199 : Int32) = zN 199 from rfl, zN_lt (by omega) (by omega)]; omega), if_pos (show (199 : Int32) < zN k from by rw [show (199 : Int32) = zN 199 from rfl, zN_lt (by omega) (by omega)]; omega)]
    exact ⟨-2, _, _, rfl, rfl, h.i⟩
  | succ rem ih =>
    intro k nC nR mC mR hk h1 h2 h hB hM
    have hz := h.od.zb
    have ho := h.od.o25
    obtain ⟨nC', rfl, h1⟩ := fuel h1
    obtain ⟨nR', rfl, h2⟩ := fuel h2
    rw [fX11_cools_26, fX12_cools_30, if_neg (show ¬ ((199 : Int32) < zN k) from zlt (a := 199) (by omega) (by omega) (by omega)), if_neg (show ¬ ((199 : Int32) < zN k) from zlt (a := 199) (by omega) (by omega) (by omega)), z6a, g_in (by omega) (by omega), g_in (by omega) (by omega), zN_cl (n := t) (by omega), zN_cl (n := 6 * 1 + t) (by omega), show mC.1 55 t = mR.1 127 (6 * 1 + t) from hB.eq 1 t (by omega) (by omega)]
    by_cases q : (10 : Int32) * x2 < mR.1 127 (6 * 1 + t)
    · rw [if_pos q, if_pos q, h.sp.1, if_pos h.lo]
      obtain ⟨m1, m2, p1, p2, p3, p4, p5⟩ := pass_rel (N := N) (by omega) h.od hB hM
      rw [p1, show fX12_passes N (1 : Int32) (0 : Int32) mR = some m2 from p2, b_some, b_some, zN_s]
      exact ih (k + 1) nC' nR' m1 m2 (by omega) (by omega) (by omega) (h.t (p4.t (by omega)) p5.t) p3 (hM.fr hB.hb p4 p5)
    · rw [if_neg q, if_neg q]
      exact ⟨_, _, _, rfl, rfl, h.i⟩
theorem op14 {N : Nat} (hN : 1000 ≤ N) : OP14 Inv N := by
  intro mC mR x1 x2 ⟨Z, o, nt, nu, nf, h⟩
  have h := h.th 0
  have hlo := h.lo
  have hz := h.od.zb
  unfold fX11_cools fX12_cools
  generalize mI mR 99 0 (0 : Int32) = R at h ⊢
  rw [h.sp.1, if_pos hlo]
  rcases tub_dec h.od x1 with ⟨t, t1, rfl, t3, t4⟩ | ⟨t3, t4⟩
  · rw [t3, t4, b_some, b_some, if_neg z10, if_neg z10]
    obtain ⟨v, v1, v2, v3⟩ := deg_rel x2 mC R
    rw [v1, v2, b_some, b_some]
    rcases v3 with rfl | rfl
    · rw [if_pos rfl, if_pos rfl]
      exact ⟨-1, _, _, rfl, rfl, h.i⟩
    · rw [if_neg z10, if_neg z10]
      obtain ⟨M, M', a1, a2, a3, a4, a5, a6, a7, _⟩ := try_rel (N := N) (by omega) h
      rw [a1, a2, b_some, b_some]
      exact cools_loop hN t1 200 0 N N M M' (by omega) (by omega) (by omega) (h.t a6 a7) a4 a5
  · rw [t3, t4, b_some, b_some, if_pos rfl, if_pos rfl]
    exact ⟨-1, _, _, rfl, rfl, h.i⟩
theorem flin_loop {Z : Nat → Nat} {N o nt nu nf t : Nat} (hN : 1000 ≤ N) (ht : t < Z 0) : ∀ rem k nC nR mC mR, k + rem = 200 → rem < nC → rem < nR → InvZ Z o nt nu nf mC mR → BathR Z 53 1 mC mR → MdR mC mR 0 → ∃ r M M', fX11_flinches_19 N nC (zN t) (zN k) mC = some (r, M) ∧ fX12_flinches_23 N nR (zN t) (zN k) mR = some (r, M') ∧ Inv M M' := by
  intro rem
  induction rem with
  | zero =>
    intro k nC nR mC mR hk h1 h2 h hB hM
    obtain ⟨nC', rfl, _⟩ := fuel h1
    obtain ⟨nR', rfl, _⟩ := fuel h2
    rw [fX11_flinches_19, fX12_flinches_23, if_pos (show (199 : Int32) < zN k from by rw [show (199 : Int32) = zN 199 from rfl, zN_lt (by omega) (by omega)]; omega), if_pos (show (199 : Int32) < zN k from by rw [show (199 : Int32) = zN 199 from rfl, zN_lt (by omega) (by omega)]; omega)]
    exact ⟨-2, _, _, rfl, rfl, h.i⟩
  | succ rem ih =>
    intro k nC nR mC mR hk h1 h2 h hB hM
    have hz := h.od.zb
    have ho := h.od.o25
    obtain ⟨nC', rfl, h1⟩ := fuel h1
    obtain ⟨nR', rfl, h2⟩ := fuel h2
    obtain ⟨m1, m2, p1, p2, p3, p4, p5⟩ := pass_rel (N := N) (by omega) h.od hB hM
    have J := h.t (p4.t (by omega)) p5.t
    have e1 := p3.eq 6 t (by omega) (by omega)
    have e0 := J.nw.eq 6 t (by omega) (by omega)
    rw [Nat.mul_zero, Nat.zero_add] at e0
    rw [fX11_flinches_19, fX12_flinches_23, if_neg (show ¬ ((199 : Int32) < zN k) from zlt (a := 199) (by omega) (by omega) (by omega)), if_neg (show ¬ ((199 : Int32) < zN k) from zlt (a := 199) (by omega) (by omega) (by omega)), h.sp.1, if_pos h.lo, p1, show fX12_passes N (1 : Int32) (0 : Int32) mR = some m2 from p2, b_some, b_some, z6a, g_in (k := t) (by omega) (by omega), g_in (k := t) (by omega) (by omega), g_in (k := 6 * 1 + t) (by omega) (by omega), g_in (k := t) (by omega) (by omega), zN_cl (n := t) (by omega), zN_cl (n := 6 * 1 + t) (by omega), show m1.1 62 t = m2.1 133 (6 * 1 + t) from e1, show m1.1 52 t = m2.1 133 t from e0]
    by_cases q : m2.1 133 (6 * 1 + t) ≤ m2.1 133 t
    · rw [if_pos q, if_pos q, zN_s]
      exact ih (k + 1) nC' nR' m1 m2 (by omega) (by omega) (by omega) J p3 (hM.fr hB.hb p4 p5)
    · rw [if_neg q, if_neg q]
      exact ⟨_, _, _, rfl, rfl, J.i⟩
theorem op15 {N : Nat} (hN : 1000 ≤ N) : OP15 Inv N := by
  intro mC mR x1 ⟨Z, o, nt, nu, nf, h⟩
  have h := h.th 0
  have hlo := h.lo
  have hz := h.od.zb
  unfold fX11_flinches fX12_flinches
  generalize mI mR 99 0 (0 : Int32) = R at h ⊢
  rw [h.sp.1, if_pos hlo]
  rcases kni_dec h.od x1 with ⟨t, t1, rfl, t3, t4⟩ | ⟨t3, t4⟩
  · rw [t3, t4, b_some, b_some, if_neg z10, if_neg z10]
    obtain ⟨M, M', a1, a2, a3, a4, a5, a6, a7, _⟩ := try_rel (N := N) (by omega) h
    rw [a1, a2, b_some, b_some]
    exact flin_loop hN t1 199 1 N N M M' (by omega) (by omega) (by omega) (h.t a6 a7) a4 a5
  · rw [t3, t4, b_some, b_some, if_pos rfl, if_pos rfl]
    exact ⟨-1, _, _, rfl, rfl, h.i⟩
