/-! chance, tried otherwise -/
theorem try1 {Z : Nat → Nat} {N o nt nu nf : Nat} {mC mR : Mem} (hN : 100 ≤ N) (h : InvZ Z o nt nu nf mC mR) : ∃ M M', fX0_become 53 43 mC = some M ∧ fX12_copies N (1 : Int32) (0 : Int32) mR = some M' ∧ BathR Z 53 1 M M' ∧ FC o 53 mC M ∧ FR 1 mR M' := by
  obtain ⟨M, a1, a2⟩ := become_ok (b := 53) (b' := 43) (m := mC) (by omega)
  obtain ⟨M', b1, b2⟩ := copies_ok (N := N) (a := 1) (b := 0) (m := mR) hN (by omega) (by omega) (by omega)
  exact ⟨M, M', a1, b1, h.nw.move (by omega) (by omega) a2 b2, ⟨fun c k q => a2.n c k q, fun c k _ _ q => a2.nj _ _ q, a2.o⟩, fun c k q1 q2 q3 => b2.n (by omega) (by omega)⟩
theorem chan_loop {Z : Nat → Nat} {N o nt nu nf n t : Nat} (hN : 1000 ≤ N) (hn : n ≤ 200) (ht : t < Z 0) : ∀ rem i nC nR mC mR v x, i + rem = 10 → rem < nC → rem < nR → v < 2147483648 → InvZ Z o nt nu nf mC mR → MdR mC mR 1 → ∃ r M M', fX11_chance_45 N nC (zN n) (zN t) (zJ v) x (zN i) mC = some (r, M) ∧ fX12_chance_39 N nR (zN n) (zN t) (zN v) x (zN i) mR = some (r, M') ∧ Inv M M' := by
  intro rem
  induction rem with
  | zero =>
    intro i nC nR mC mR v x hi h1 h2 hv h hM
    obtain ⟨nC', rfl, _⟩ := fuel h1
    obtain ⟨nR', rfl, _⟩ := fuel h2
    rw [fX11_chance_45, fX12_chance_39, if_pos (show (10 : Int32) ≤ zN i from zle' (a := 10) (by omega) (by omega) (by omega)), if_pos (show (10 : Int32) ≤ zN i from zle' (a := 10) (by omega) (by omega) (by omega))]
    exact ⟨_, _, _, rfl, rfl, h.i⟩
  | succ rem ih =>
    intro i nC nR mC mR v x hi h1 h2 hv h hM
    have hz := h.od.zb
    have ho := h.od.o25
    obtain ⟨nC', rfl, h1⟩ := fuel h1
    obtain ⟨nR', rfl, h2⟩ := fuel h2
    obtain ⟨m1, m2, a1, a2, a3, a4, a5⟩ := try1 (N := N) (by omega) h
    have B := a3.upN hv
    have C4 : FC o 53 mC (mJ m1 53 11 (zJ v)) := a4.tr (FC.mJ (by omega))
    have C5 : FR 1 mR (mI m2 124 1 (zN v)) := a5.tr (FR.mI (by omega))
    have M1 := hM.fr (by omega) C4 C5
    have I := h.t (C4.t (by omega)) C5.t
    rw [fX11_chance_45, fX12_chance_39, if_neg (show ¬ ((10 : Int32) ≤ zN i) from zle (a := 10) (by omega) (by omega) (by omega)), if_neg (show ¬ ((10 : Int32) ≤ zN i) from zle (a := 10) (by omega) (by omega) (by omega)), a1, a2, b_some, b_some, I.sp.1, if_pos I.lo]
    obtain ⟨P, P', r1, r2, r3, r4, r5, r6, r7⟩ := run_rel (F := fun f y q => fX12_chance_63 N (fX12_chance_81 N (fun x2 x3 x4 x5 x6 m => fX12_chance_39 N nR' x2 x3 x4 x5 x6 m)) f (zN n) (zN t) x (zN i) y q) (K := fun q => fX12_chance_81 N (fun x2 x3 x4 x5 x6 m => fX12_chance_39 N nR' x2 x3 x4 x5 x6 m) (zN n) (zN t) x (zN i) q) (N := N) (s := 1) (cnt := n) (yn := 1) (by omega) (by omega) (fun f y q e => by rw [fX12_chance_63, if_pos e]) (fun f y q e => by rw [fX12_chance_63, if_neg e]; rfl) n 0 N N _ _ (by omega) (by omega) (by omega) I.od B M1
    unfold fX5_passMany
    rw [show fX5_passMany_3 N N o 53 (zN n) (0 : Int32) (mJ m1 53 11 (zJ v)) = some P from r1, b_some]
    rw [show fX12_chance_63 N (fX12_chance_81 N (fun x2 x3 x4 x5 x6 m => fX12_chance_39 N nR' x2 x3 x4 x5 x6 m)) N (zN n) (zN t) x (zN i) (0 : Int32) (mI m2 124 1 (zN v)) = _ from r2]
    have J := I.t (r6.t (by omega)) r7.t
    obtain ⟨w, w1, w2, w3⟩ := r4.nu
    unfold fX12_chance_81
    rw [z6a, g_in (by omega) (by omega), g_in (by omega) (by omega), zN_cl (n := t) (by omega), zN_cl (n := 6 * 1 + t) (by omega), w2, w3, zN_s]
    rcases r4.pl t (by omega) with ⟨q1, q2⟩ | ⟨_, y, y1, q1, q2, _⟩
    · rw [show P.1 58 t = -2 from q1, if_pos (by decide), q2, if_pos rfl, Int32.add_zero]
      exact ih (i + 1) nC' nR' P P' w x (by omega) (by omega) (by omega) w1 J r5
    · rw [show P.1 58 t = zN y from q1, if_neg (znn (by omega)), q2, if_neg (show ¬ (zN y = (-1 : Int32)) from by rw [zN_m1 (by omega)]; exact id)]
      exact ih (i + 1) nC' nR' P P' w _ (by omega) (by omega) (by omega) w1 J r5
theorem op31 {N : Nat} (hN : 1000 ≤ N) : OP31 Inv N := by
  intro mC mR x1 x2 x3 ⟨Z, o, nt, nu, nf, h⟩
  have h := h.th 0
  have hlo := h.lo
  have hz := h.od.zb
  unfold fX11_chance fX12_chance
  generalize mI mR 99 0 (0 : Int32) = R at h ⊢
  rcases zN_or x1 with q | ⟨v, hv, rfl⟩
  · rw [if_pos q, if_pos q]
    exact ⟨-1, _, _, rfl, rfl, h.i⟩
  · rw [if_neg (znn hv), if_neg (znn hv)]
    by_cases e1 : x2 < 1
    · rw [if_pos e1, if_pos e1]
      exact ⟨-1, _, _, rfl, rfl, h.i⟩
    · rw [if_neg e1, if_neg e1]
      rcases rng (x := x2) (hi := 99) (by omega) with q | ⟨q1, q2, _⟩ | ⟨n, n1, rfl, q1, q2, _⟩
      · exact absurd (Int32.lt_of_lt_of_le q (show (0 : Int32) ≤ 1 from by decide)) e1
      · rw [if_pos (show (99 : Int32) < x2 from q2), if_pos (show (99 : Int32) < x2 from q2)]
        exact ⟨-1, _, _, rfl, rfl, h.i⟩
      · rw [if_neg (show ¬ ((99 : Int32) < zN n) from q2), if_neg (show ¬ ((99 : Int32) < zN n) from q2), h.sp.1, if_pos hlo]
        rcases kni_dec h.od x3 with ⟨t, t1, rfl, t3, t4⟩ | ⟨t3, t4⟩
        · rw [t3, t4, b_some, b_some, if_neg z10, if_neg z10]
          unfold fX5_drawn
          rw [b_some, zN_64 hv]
          have I : InvZ Z o nt nu nf (mI (mI (mI (mI mC 73 0 (0 : Int32)) 73 1 (-1 : Int32)) 73 2 (1 : Int32)) 73 3 (1 : Int32)) R := by
            refine h.cong (fun c k q => ?_) (fun c q => rfl) rfl (fun _ _ _ => rfl)
            unfold KC at q
            rw [mI_n (by omega), mI_n (by omega), mI_n (by omega), mI_n (by omega)]
          exact chan_loop hN (by omega) t1 10 0 N N _ _ v 0 (by omega) (by omega) (by omega) hv I (MdR.drawn h.ty.1)
        · rw [t3, t4, b_some, b_some, if_pos rfl, if_pos rfl]
          exact ⟨-1, _, _, rfl, rfl, h.i⟩
theorem other_rel {w : Nat} {x2 : Int32} {M M' : Mem} (hw : w ≤ 4) (h : MdR M M' 0) (h0 : M'.1 99 52 = 0) (e1 : M.1 73 1 = -1) (e2 : M.1 73 2 = 1) (e3 : M.1 73 3 = 1) : ∃ P, fX5_otherwise (zN w) x2 M = some P ∧ MdR P (mI (mI M' 99 52 (if w = 0 then 5 else zN w)) 99 53 x2) 0 ∧ (∀ c k, c ≠ 73 → P.1 c k = M.1 c k) ∧ P.2 = M.2 := by
  have F : (M.1 73 0 = 1 ∧ ¬ (M'.1 101 5 < 50)) ∨ (M.1 73 0 = 2 ∧ M'.1 101 5 < 50) := by
    rcases h.fl with ⟨_, _, q⟩ | ⟨q1, q2⟩ | ⟨q1, q2⟩
    · exact absurd rfl q
    · refine Or.inl ⟨q1, ?_⟩
      rcases q2 with q2 | q2
      · rw [h0] at q2
        exact absurd q2 (by decide)
      · exact q2.2.2.2
    · refine Or.inr ⟨q1, ?_⟩
      rcases q2 with q2 | q2
      · rw [h0] at q2
        exact absurd q2 (by decide)
      · exact q2.2.2.2
  have F2 : ∀ y : Int32, y ≠ 5 → y ≠ 1 → ∀ m : Mem, m.1 73 0 = M.1 73 0 → ((m.1 73 0 = 0 ∧ y = 0 ∧ (0 : Int32) ≠ 0) ∨ (m.1 73 0 = 1 ∧ (y = 5 ∨ (y ≠ 5 ∧ y ≠ 1 ∧ (0 : Int32) = 0 ∧ ¬ (M'.1 101 5 < 50)))) ∨ (m.1 73 0 = 2 ∧ (y = 1 ∨ (y ≠ 5 ∧ y ≠ 1 ∧ (0 : Int32) = 0 ∧ M'.1 101 5 < 50)))) := by
    intro y h5 h1 m e
    rw [e]
    rcases F with ⟨f1, f2⟩ | ⟨f1, f2⟩
    · exact Or.inr (Or.inl ⟨f1, Or.inr ⟨h5, h1, rfl, f2⟩⟩)
    · exact Or.inr (Or.inr ⟨f1, Or.inr ⟨h5, h1, rfl, f2⟩⟩)
  have g52 : ∀ y : Int32, (mI (mI M' 99 52 y) 99 53 x2).1 99 52 = y := fun y => by rw [mI_n (by omega), mI_s ⟨rfl, rfl⟩]
  have g53 : ∀ y : Int32, (mI (mI M' 99 52 y) 99 53 x2).1 99 53 = x2 := fun y => by rw [mI_s ⟨rfl, rfl⟩]
  have g5 : ∀ y : Int32, (mI (mI M' 99 52 y) 99 53 x2).1 101 5 = M'.1 101 5 := fun y => by rw [mI_n (by omega), mI_n (by omega)]
  unfold fX5_otherwise
  have hw : w = 0 ∨ w = 1 ∨ w = 2 ∨ w = 3 ∨ w = 4 := by omega
  rcases hw with rfl | rfl | rfl | rfl | rfl
  · rw [if_pos (show zN 0 = (0 : Int32) from rfl), if_pos rfl]
    refine ⟨_, rfl, ⟨?_, ?_, ?_, ?_⟩, fun c k q => mI_n (by omega), rfl⟩
    · rw [g52, mI_n (by omega), e2]
      decide
    · rw [g52, mI_n (by omega), e3]
      decide
    · rw [g52, g53, mI_n (by omega), e1]
      exact Or.inr ⟨by decide, rfl⟩
    · rw [g52, g5, mI_s ⟨rfl, rfl⟩]
      exact Or.inr (Or.inl ⟨rfl, Or.inl rfl⟩)
  · rw [if_neg (show ¬ (zN 1 = (0 : Int32)) from by decide), if_pos (show zN 1 = (1 : Int32) from rfl), if_neg (show ¬ (1 = 0) from by decide)]
    refine ⟨_, rfl, ⟨?_, ?_, ?_, ?_⟩, fun c k q => mI_n (by omega), rfl⟩
    · rw [g52, mI_n (by omega), e2]
      decide
    · rw [g52, mI_n (by omega), e3]
      decide
    · rw [g52, g53, mI_n (by omega), e1]
      exact Or.inr ⟨by decide, rfl⟩
    · rw [g52, g5, mI_s ⟨rfl, rfl⟩]
      exact Or.inr (Or.inr ⟨rfl, Or.inl rfl⟩)
  · rw [if_neg (show ¬ (zN 2 = (0 : Int32)) from by decide), if_neg (show ¬ (zN 2 = (1 : Int32)) from by decide), if_pos (show zN 2 = (2 : Int32) from rfl), if_neg (show ¬ (2 = 0) from by decide)]
    refine ⟨_, rfl, ⟨?_, ?_, ?_, ?_⟩, fun c k q => mI_n (by omega), rfl⟩
    · rw [g52, mI_n (by omega), e2]
      decide
    · rw [g52, mI_n (by omega), e3]
      decide
    · rw [g52, g53, mI_s ⟨rfl, rfl⟩]
      exact Or.inl ⟨by decide, rfl⟩
    · rw [g52, g5]
      exact F2 (zN 2) (by decide) (by decide) _ (mI_n (by omega))
  · rw [if_neg (show ¬ (zN 3 = (0 : Int32)) from by decide), if_neg (show ¬ (zN 3 = (1 : Int32)) from by decide), if_neg (show ¬ (zN 3 = (2 : Int32)) from by decide), if_pos (show zN 3 = (3 : Int32) from rfl), if_neg (show ¬ (3 = 0) from by decide)]
    refine ⟨_, rfl, ⟨?_, ?_, ?_, ?_⟩, fun c k q => mI_n (by omega), rfl⟩
    · rw [g52, mI_s ⟨rfl, rfl⟩]
      decide
    · rw [g52, mI_n (by omega), e3]
      decide
    · rw [g52, g53, mI_n (by omega), e1]
      exact Or.inr ⟨by decide, rfl⟩
    · rw [g52, g5]
      exact F2 (zN 3) (by decide) (by decide) _ (mI_n (by omega))
  · rw [if_neg (show ¬ (zN 4 = (0 : Int32)) from by decide), if_neg (show ¬ (zN 4 = (1 : Int32)) from by decide), if_neg (show ¬ (zN 4 = (2 : Int32)) from by decide), if_neg (show ¬ (zN 4 = (3 : Int32)) from by decide), if_neg (show ¬ (4 = 0) from by decide)]
    refine ⟨_, rfl, ⟨?_, ?_, ?_, ?_⟩, fun c k q => mI_n (by omega), rfl⟩
    · rw [g52, mI_n (by omega), e2]
      decide
    · rw [g52, mI_s ⟨rfl, rfl⟩]
      decide
    · rw [g52, g53, mI_n (by omega), e1]
      exact Or.inr ⟨by decide, rfl⟩
    · rw [g52, g5]
      exact F2 (zN 4) (by decide) (by decide) _ (mI_n (by omega))
theorem tried_in {Z : Nat → Nat} {N o nt nu nf n w : Nat} {x2 : Int32} {mC R : Mem} (hN : 1000 ≤ N) (hn : n ≤ 200) (hw : w ≤ 4) (h : InvZ Z o nt nu nf mC R) : ∃ r M M', fX11_tried_47 N (zN w) x2 (zN n) mC = some (r, M) ∧ fX12_tried_36 N (zN w) x2 (zN n) (1 : Int32) R = some (r, M') ∧ Inv M M' := by
  have ho := h.od.o25
  have hz := h.od.zb
  unfold fX11_tried_47 fX12_tried_36
  obtain ⟨M, M', a1, a2, a3, a4, a5, a6, a7, b1, b2, b3⟩ := try_rel (N := N) (by omega) h
  have I := h.t a6 a7
  obtain ⟨P, c1, c2, c3, c4⟩ := other_rel (x2 := x2) hw a5 I.ty.1 b1 b2 b3
  rw [if_neg z10, if_neg (znn (by omega)), if_pos (show zN n ≤ (200 : Int32) from zle' (c := 200) (by omega) (by omega) hn), a1, a2, b_some, b_some, c1, b_some, show P.2.2 3 = o from by rw [c4]; exact I.sp.1, if_pos I.lo]
  have E : (if zN w = 0 then fX12_tried_72 N x2 (zN n) (5 : Int32) M' else fX12_tried_72 N x2 (zN n) (zN w) M') = fX12_tried_72 N x2 (zN n) (if w = 0 then 5 else zN w) M' := by
    by_cases e : w = 0
    · rw [e, if_pos (show zN 0 = 0 from rfl), if_pos rfl]
    · rw [if_neg (show ¬ (zN w = 0) from zne (c := 0) (by omega) (by omega) e), if_neg e]
  rw [E]
  unfold fX12_tried_72
  have O1 : OrdR Z o P (mI (mI M' 99 52 (if w = 0 then 5 else zN w)) 99 53 x2) := a3.cong (fun c k q => c3 c k (by omega)) (fun c k _ _ => by rw [mI_n (by omega), mI_n (by omega)])
  have B1 : BathR Z 53 1 P (mI (mI M' 99 52 (if w = 0 then 5 else zN w)) 99 53 x2) := a4.cong (fun c k _ _ => c3 c k (by omega)) (by rw [c4]) (fun c _ _ => by rw [mI_n (by omega), mI_n (by omega)]) (fun c k _ _ _ => by rw [mI_n (by omega), mI_n (by omega)])
  obtain ⟨Q, Q', r1, r2, r3, r4, r5⟩ := goes_rel hN hn O1 B1 c2
  obtain ⟨v, v1, v2⟩ := sum_rel (N := N) (c := 59) (r := 131) (s := 1) (mC := Q) (mR := mI (mI Q' 99 52 (0 : Int32)) 99 53 (-1 : Int32)) (by omega) (by omega) rfl rfl (fun k hk => by rw [mI_n (by omega), mI_n (by omega)]; exact r3.eq 4 k (by omega) hk)
  rw [r1, r2, b_some, b_some, v1, show fX12_sumOf N 131 (1 : Int32) (mI (mI Q' 99 52 (0 : Int32)) 99 53 (-1 : Int32)) = some v from v2, b_some, b_some]
  have K : InvZ Z o nt nu nf Q (mI (mI Q' 99 52 (0 : Int32)) 99 53 (-1 : Int32)) := by
    have T := r4.t (by omega)
    have T' := r5.t
    refine I.cong (fun c k q => ?_) (fun c q => ?_) ?_ (fun c k q => ?_)
    · rw [T.1 c k q, c3 c k (by unfold KC at q; omega)]
    · rw [T.2.1 c q, c4]
    · rw [T.2.2, c4]
    · by_cases e : c = 99 ∧ k = 52
      · rw [e.1, e.2, mI_n (by omega), mI_s ⟨rfl, rfl⟩, I.ty.1]
      · by_cases e' : c = 99 ∧ k = 53
        · rw [e'.1, e'.2, mI_s ⟨rfl, rfl⟩, I.ty.2]
        · rw [mI_n (by omega), mI_n (by omega), T' c k q, mI_n (by omega), mI_n (by omega)]
  exact ⟨_, _, _, rfl, rfl, K.i⟩
theorem op32 {N : Nat} (hN : 1000 ≤ N) : OP32 Inv N := by
  intro mC mR x1 x2 x3 ⟨Z, o, nt, nu, nf, h⟩
  have h := h.th 0
  have hlo := h.lo
  have hz := h.od.zb
  unfold fX11_tried fX12_tried
  generalize mI mR 99 0 (0 : Int32) = R at h ⊢
  have Z0 : ∀ x y : Int32, fX12_tried_36 N x1 x y (0 : Int32) R = some (-1, R) := by
    intro x y
    unfold fX12_tried_36
    rw [if_pos rfl]
  have X3 : ∀ y0 : Int32, (x3 < 0 ∨ (¬ x3 < 0 ∧ ¬ x3 ≤ 200)) → fX12_tried_36 N x1 x2 x3 y0 R = some (-1, R) := by
    intro y0 q
    unfold fX12_tried_36
    by_cases e : y0 = 0
    · rw [if_pos e]
    · rw [if_neg e]
      rcases q with q | ⟨q1, q2⟩
      · rw [if_pos q]
      · rw [if_neg q1, if_neg q2]
  unfold fX12_tried_35
  rcases rng (x := x1) (hi := 4) (by omega) with q | ⟨q1, q2, q3⟩ | ⟨w, w1, rfl, q1, q2, q3⟩
  · rw [if_pos q, if_neg (show ¬ (x1 = (2 : Int32)) from fun z => by rw [z] at q; exact absurd q (by decide)), if_pos q, Z0]
    exact ⟨-1, _, _, rfl, rfl, h.i⟩
  · rw [if_neg q1, if_pos (show (4 : Int32) < x1 from q2), if_neg (show ¬ (x1 = (2 : Int32)) from fun z => by rw [z] at q2; exact absurd q2 (by decide)), if_neg q1, if_pos (show (4 : Int32) < x1 from q2), Z0]
    exact ⟨-1, _, _, rfl, rfl, h.i⟩
  · rw [if_neg q1, if_neg (show ¬ ((4 : Int32) < zN w) from q2), if_neg q1, if_neg (show ¬ ((4 : Int32) < zN w) from q2)]
    by_cases bad : x3 < 0 ∨ (¬ x3 < 0 ∧ ¬ x3 ≤ 200)
    · have L : (if x3 < 0 then some ((-1 : Int32), mC) else if x3 ≤ (200 : Int32) then (if zN w = (2 : Int32) then (if lay (mC.2.2 3) = (0, 6) then ((fX6_hasKnight (mC.2.2 3) x2 mC).bind (fun q17 => if q17 = 0 then (some ((-1 : Int32), mC)) else (fX11_tried_47 N (zN w) x2 x3 mC))) else none) else (if x2 = 0 then (fX11_tried_47 N (zN w) x2 x3 mC) else (some ((-1 : Int32), mC)))) else some ((-1 : Int32), mC)) = some (-1, mC) := by
        rcases bad with b | ⟨b1, b2⟩
        · rw [if_pos b]
        · rw [if_neg b1, if_neg b2]
      rw [L]
      refine ⟨-1, mC, R, rfl, ?_, h.i⟩
      by_cases e : zN w = 2
      · rw [if_pos e]
        rcases kni_dec h.od x2 with ⟨t, t1, rfl, t3, t4⟩ | ⟨t3, t4⟩
        · rw [t4, b_some, X3 _ bad]
        · rw [t4, b_some, X3 _ bad]
      · rw [if_neg e]
        by_cases e : x2 = 0
        · rw [if_pos e, X3 _ bad]
        · rw [if_neg e, X3 _ bad]
    · rcases rng (x := x3) (hi := 200) (by omega) with q | ⟨p1, p2, p3⟩ | ⟨n, n1, rfl, p1, p2, p3⟩
      · exact absurd (Or.inl q) bad
      · exact absurd (Or.inr ⟨p1, p3⟩) bad
      · rw [if_neg p1, if_pos (show zN n ≤ (200 : Int32) from p3), h.sp.1, if_pos hlo]
        by_cases e : zN w = 2
        · rw [if_pos e, if_pos e]
          rcases kni_dec h.od x2 with ⟨t, t1, rfl, t3, t4⟩ | ⟨t3, t4⟩
          · rw [t3, t4, b_some, b_some, if_neg z10]
            exact tried_in hN n1 w1 h
          · rw [t3, t4, b_some, b_some, if_pos rfl, Z0]
            exact ⟨-1, _, _, rfl, rfl, h.i⟩
        · rw [if_neg e, if_neg e]
          by_cases e : x2 = 0
          · rw [if_pos e, if_pos e]
            exact tried_in hN n1 w1 h
          · rw [if_neg e, if_neg e, Z0]
            exact ⟨-1, _, _, rfl, rfl, h.i⟩
