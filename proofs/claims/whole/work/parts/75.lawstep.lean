/-! a sign, a not, an operand, a bracket -/
theorem getD_mem {V : List Nat} {j : Nat} (h : j < V.length) : V.getD j 0 ∈ V := by
  have e : V.getD j 0 = V[j] := by simp [List.getD, h]
  rw [e]
  exact List.getElem_mem h
theorem LT.i7 {n : Nat} {bt : Nat → Nat} {i p pl : Nat} {mC mR : Mem} (t : LT n bt i p pl mC mR) : i < 700 := by
  have a := t.tb.hn
  have b := t.pn
  rcases t.ip with ⟨_, q⟩ | ⟨_, q⟩ <;> omega
theorem LT.i2 {n : Nat} {bt : Nat → Nat} {i p pl : Nat} {mC mR : Mem} (t : LT n bt i p pl mC mR) {x : Nat} (hx : x < 35) (e : mC.1 5 4 = zN x) : i + 2 ≤ p := by
  rcases t.ip with ⟨q, _⟩ | ⟨_, q⟩
  · rw [e, zN_m1 (by omega)] at q
    exact q.elim
  · exact q
theorem unl_all {N l f0 b : Nat} {V Q : List Nat} {k c s : Nat} {mC mR m : Mem} (hN : 1000 ≤ N) (h : LQ l f0 V Q k c s mC mR) (hb : b ≤ 6) (hV : ∀ v, v ∈ V → b ≤ bnd v) (hQ : stopAt b Q) (e : ∀ c j, c = 3 ∨ (c = 2 ∧ j = 3) ∨ (c = l ∧ j = 7) → m.1 c j = mC.1 c j) : ∃ M, fX8_unload N l (zN b) m = some M ∧ M.1 2 3 = zN Q.length ∧ M.1 l 7 = zN (s + V.length) ∧ (∀ j, j < V.length → M.1 (l + 1) (s + j) = zN (V.getD j 0) ∧ M.1 (l + 2) (s + j) = 0) ∧ (∀ c k, ¬ (c = 2 ∧ k = 3) → ¬ (c = l ∧ k = 7) → ¬ ((c = l + 1 ∨ c = l + 2) ∧ s ≤ k) → M.1 c k = m.1 c k) ∧ M.2 = m.2 := by
  have L := h.len
  have c1 := h.kn.1
  have k1 := h.op.1
  have hl := h.hl
  unfold fX8_unload
  rw [e 2 3 (by omega), h.wt, Int32.sub_eq_add_neg]
  have v72 : V.length < N := by omega
  exact unload_ok (by omega) hb hQ V N s m (fun v hv => ⟨h.vs v hv, hV v hv⟩) v72 (by omega) (h.pd.cong _ (fun j _ => e 3 j (by omega))) (by rw [e 2 3 (by omega)]; exact h.wt) (by rw [e l 7 (by omega)]; exact h.sz.1) (by omega)
theorem sgn_step {N n l f0 : Nat} {bt : Nat → Nat} {V Q : List Nat} {k c s i p pl nn x : Nat} {x2 x3 : Int32} {mC mR : Mem} (hN : 1000 ≤ N) (h : LQ l f0 V Q k c s mC mR) (t : LT n bt i p pl mC mR) (hf : nn + i = N) (d : mC.1 2 5 = 0) (hx : isOp x = true) (hx13 : x ≠ 13) (ek : mC.1 5 4 = zN x) (hV : ∀ v, v ∈ V → bnd x ≤ bnd v) (hQ : stopAt (bnd x) Q) (hc4 : bnd x = 4 → mC.1 4 k = 0) (h01 : mC.1 4 k = 0 ∨ mC.1 4 k = 1) : ∃ mR1, (fX12_knot mR).bind (fun q => fX12_goOn N q) = some mR1 ∧ ((∃ mC', fX8_readLaw_89 N nn l x2 x3 (zN i) mC = some (0, mC') ∧ FlR mC' mR1 ∧ LFC l s k mC mC' ∧ LFR (s + V.length) mR mR1) ∨ (mR1.1 99 30 = 0 ∧ ∃ mC' p' pl' nn', fX8_readLaw_89 N nn l x2 x3 (zN i) mC = fX8_readLaw_89 N nn' l x2 x3 (zN (i + 1)) mC' ∧ nn' + (i + 1) = N ∧ LQ l f0 [] (x :: Q) k (c + 1) (s + V.length) mC' mR1 ∧ LT n bt (i + 1) p' pl' mC' mR1 ∧ mC'.1 2 5 = 1 ∧ mC'.1 2 6 = (if bnd x < 4 then 1 else 0) ∧ mC'.1 4 k = (if bnd x = 4 then 1 else if bnd x < 4 then 0 else mC.1 4 k) ∧ p ≤ p' ∧ (mC'.1 5 4 = -1 ∨ p < p') ∧ LFC l s k mC mC' ∧ LFR (s + V.length) mR mR1)) := by
  obtain ⟨y1, y2, y3, y4, y5, y6⟩ := isOp_lt hx
  have bx := (bnd_ok x y1).2
  have i7 := t.i7
  have i2 := t.i2 y1 ek
  have L := h.len
  have hl := h.hl
  have ct := h.ct
  have av := nS_ops V h.vs
  have as := nS_app V Q
  have ao := nO_app V Q
  have aq := nSO Q
  obtain ⟨k1, k2, k3⟩ := h.op
  obtain ⟨c1, c2, c3⟩ := h.kn
  obtain ⟨nn', rfl, _⟩ := fuel (show 0 < nn by omega)
  rw [rl_sgn i7 d k2 k1 (fun z => by
    have z := z.2
    rw [ek, zN_eq (by omega) (by omega)] at z
    omega)]
  have T : fX8_takeSign N l mC = fX8_takeSign_121 N l (zN x) (zN (bnd x)) (if bnd x = 4 then 1 else 0) mC := by
    unfold fX8_takeSign
    rw [ek, if_neg (show ¬ (zN x = (24 : Int32)) from zne (c := 24) (by omega) (by omega) y3)]
    unfold fX8_takeSign_49
    rw [binding_ok y1, b_some]
    have T64 : ∀ y : Int32, (y = 0 ∨ mC.1 4 k = 0) → fX8_takeSign_64 N l (zN x) (zN (bnd x)) y mC = fX8_takeSign_121 N l (zN x) (zN (bnd x)) y mC := by
      intro y hy
      unfold fX8_takeSign_64
      rw [if_neg (show ¬ (zN (bnd x) = 0) from zne (c := 0) (by omega) (by omega) (by omega)), if_neg (show ¬ (zN x = (13 : Int32)) from zne (c := 13) (by omega) (by omega) hx13), k2, if_neg (znn (by omega)), if_pos (show zN k ≤ (8 : Int32) from zle' (c := 8) (by omega) (by omega) k1), g_in (by omega) (by omega), zN_cl (by omega)]
      by_cases w : y = 0
      · rw [if_pos w]
      · rw [if_neg w, if_pos (hy.resolve_left w)]
    by_cases w : bnd x = 4
    · rw [if_pos w, if_pos (show zN (bnd x) = (4 : Int32) from by rw [w]; rfl)]
      exact T64 1 (Or.inr (hc4 w))
    · rw [if_neg w, if_neg (show ¬ (zN (bnd x) = (4 : Int32)) from zne (c := 4) (by omega) (by omega) w)]
      exact T64 0 (Or.inl rfl)
  rw [T]
  unfold fX8_takeSign_121
  obtain ⟨K1, K2⟩ := knot_ok h
  by_cases cc : c = 64
  · obtain ⟨a1, a2⟩ := K1 cc
    have F := FlR.mk t.tk (v := 2) (by omega)
    rw [a1, b_some, goOn_f F.2.2, a2, b_some, if_pos rfl]
    exact ⟨_, rfl, Or.inl ⟨_, rfl, F, LFC.fail, LFR.fail⟩⟩
  · obtain ⟨a1, a2⟩ := K2 (by omega)
    rw [a1, b_some, a2, b_some, if_neg z10]
    obtain ⟨M, u1, u2, u3, u4, u5, u6⟩ := unl_all (b := bnd x) (m := mI mC l 6 (zN (c + 1))) hN h bx hV hQ (fun c j w => mI_n (by omega))
    rw [u1, b_some]
    have m24 : M.1 2 4 = zN k := by
      rw [u5 _ _ (by omega) (by omega) (by omega), mI_n (by omega)]
      exact k2
    have m4k : M.1 4 k = mC.1 4 k := by rw [u5 _ _ (by omega) (by omega) (by omega), mI_n (by omega)]
    -- what is compared behind it
    have S172 : ∀ y : Int32, (y = 0 ∨ y = 1) → fX8_takeSign_172 N (zN x) (zN (bnd x)) y (zN k) M = some (1, mI (mI (mI (mI (mI M 4 k y) 2 5 1) 2 6 (if bnd x < 4 then 1 else 0)) 3 Q.length (zN x)) 2 3 (zN (Q.length + 1))) := by
      intro y hy
      unfold fX8_takeSign_172 fX8_takeSign_189
      have vy : vp_nar .boolean y = y := by rcases hy with rfl | rfl <;> rfl
      rw [g_in (by omega) (by omega), zN_cl (by omega), vy]
      have AW : ∀ z : Int32, fX8_await (zN x) (mI (mI (mI M 4 k y) 2 5 1) 2 6 z) = some (1, mI (mI (mI (mI (mI M 4 k y) 2 5 1) 2 6 z) 3 Q.length (zN x)) 2 3 (zN (Q.length + 1))) := fun z => await_ok (by rw [mI_n (by omega), mI_n (by omega), mI_n (by omega)]; exact u2) (by omega)
      by_cases w : bnd x < 4
      · rw [if_neg (show ¬ ((4 : Int32) ≤ zN (bnd x)) from zle (a := 4) (by omega) (by omega) w), if_pos (Or.inr rfl), AW, b_some, if_pos (Or.inr rfl), if_pos w]
      · rw [if_pos (show (4 : Int32) ≤ zN (bnd x) from zle' (a := 4) (by omega) (by omega) (by omega)), if_pos (Or.inl rfl), AW, b_some, if_pos (Or.inr rfl), if_neg w]
    have hcmp : (if bnd x = 4 then (1 : Int32) else if bnd x < 4 then 0 else mC.1 4 k) = 0 ∨ (if bnd x = 4 then (1 : Int32) else if bnd x < 4 then 0 else mC.1 4 k) = 1 := by
      by_cases w : bnd x = 4
      · rw [if_pos w]
        exact Or.inr rfl
      · rw [if_neg w]
        by_cases w2 : bnd x < 4
        · rw [if_pos w2]
          exact Or.inl rfl
        · rw [if_neg w2]
          exact h01
    have U := S172 _ hcmp
    have E : (if (if bnd x = 4 then (1 : Int32) else 0) = 0 then (if zN (bnd x) ≤ (4 : Int32) then (fX8_takeSign_171 N (zN x) (zN (bnd x)) (M.1 2 4) M) else (if (M.1 2 4) < 0 ∨ 9 ≤ (M.1 2 4).toNatClampNeg then none else (if (M.1 4 (M.1 2 4).toNatClampNeg) = 0 then (fX8_takeSign_171 N (zN x) (zN (bnd x)) (M.1 2 4) M) else (fX8_takeSign_167 N (zN x) (zN (bnd x)) (M.1 2 4) M)))) else (fX8_takeSign_167 N (zN x) (zN (bnd x)) (M.1 2 4) M)) = fX8_takeSign_172 N (zN x) (zN (bnd x)) (if bnd x = 4 then 1 else if bnd x < 4 then 0 else mC.1 4 k) (zN k) M := by
      unfold fX8_takeSign_171 fX8_takeSign_167
      rw [m24, zN_cl (by omega), m4k]
      by_cases w : bnd x = 4
      · rw [if_pos w, if_pos w, if_neg z10]
      · rw [if_neg w, if_neg w, if_pos rfl]
        by_cases w2 : bnd x < 4
        · rw [if_pos w2, if_pos (show zN (bnd x) ≤ (4 : Int32) from zle' (c := 4) (by omega) (by omega) (by omega))]
        · rw [if_neg w2, if_neg (show ¬ (zN (bnd x) ≤ (4 : Int32)) from zle (c := 4) (by omega) (by omega) (by omega)), g_ii (by omega) (by omega)]
          rcases h01 with z | z
          · rw [z, if_pos rfl]
          · rw [z, if_neg z10]
    rw [E, U, b_some, if_neg z10]
    unfold fX8_readLaw_165
    -- the memory in which the sign waits
    have frm : ∀ cc j, ¬ (cc = 2 ∧ (j = 3 ∨ j = 5 ∨ j = 6)) → cc ≠ 3 → ¬ (cc = 4 ∧ j = k) → ¬ (cc = l ∧ (j = 6 ∨ j = 7)) → ¬ ((cc = l + 1 ∨ cc = l + 2) ∧ s ≤ j) → (mI (mI (mI (mI (mI M 4 k (if bnd x = 4 then 1 else if bnd x < 4 then 0 else mC.1 4 k)) 2 5 1) 2 6 (if bnd x < 4 then 1 else 0)) 3 Q.length (zN x)) 2 3 (zN (Q.length + 1))).1 cc j = mC.1 cc j := by
      intro cc j q1 q2 q3 q4 q5
      rw [mI_n (by omega), mI_n (by omega), mI_n (by omega), mI_n (by omega), mI_n (by omega), u5 _ _ (by omega) (by omega) (by omega), mI_n (by omega)]
    have LQ1 : LQ l f0 [] (x :: Q) k (c + 1) (s + V.length) (mI (mI (mI (mI (mI M 4 k (if bnd x = 4 then 1 else if bnd x < 4 then 0 else mC.1 4 k)) 2 5 1) 2 6 (if bnd x < 4 then 1 else 0)) 3 Q.length (zN x)) 2 3 (zN (Q.length + 1))) (mI mR 99 35 (zN (c + 1))) := by
      refine ⟨by rw [mI_n (by omega)]; exact h.fl, mI_s ⟨rfl, rfl⟩, ⟨?_, (Pd.dr V Q h.pd).cong _ (fun j hj => ?_)⟩, ⟨k1, ?_, by rw [mI_n (by omega)]; exact k3⟩, ⟨by omega, ?_, mI_s ⟨rfl, rfl⟩⟩, ⟨?_, ?_⟩, ⟨?_, ?_⟩, fun v hv => absurd hv (by simp), fun j hj => absurd hj (by simp), fun j q1 q2 => ?_, by omega, ?_⟩
      · rw [mI_n (by omega), mI_s ⟨rfl, rfl⟩]
      · rw [mI_n (by omega), mI_n (by omega), mI_n (by omega), mI_n (by omega), mI_n (by omega), u5 _ _ (by omega) (by omega) (by omega), mI_n (by omega)]
      · rw [frm _ _ (by omega) (by omega) (by omega) (by omega) (by omega)]
        exact k2
      · rw [mI_n (by omega), mI_n (by omega), mI_n (by omega), mI_n (by omega), mI_n (by omega), u5 _ _ (by omega) (by omega) (by omega), mI_s ⟨rfl, rfl⟩]
      · rw [mI_n (by omega), mI_n (by omega), mI_n (by omega), mI_n (by omega), mI_n (by omega)]
        exact u3
      · rw [mI_n (by omega)]
        exact h.sz.2
      · rw [List.nil_append, nS, if_neg y2]
        omega
      · rw [List.nil_append, nO, if_neg y2]
        omega
      · rw [mI_n (by omega), mI_n (by omega), mI_n (by omega), mI_n (by omega), mI_n (by omega), mI_n (by omega), mI_n (by omega), mI_n (by omega), mI_n (by omega), mI_n (by omega), mI_n (by omega), mI_n (by omega)]
        by_cases w : j < s
        · rw [u5 _ _ (by omega) (by omega) (by omega), u5 _ _ (by omega) (by omega) (by omega), mI_n (by omega), mI_n (by omega)]
          exact h.cm j q1 w
        · obtain ⟨j', rfl⟩ : ∃ j', j = s + j' := ⟨j - s, by omega⟩
          have hj' : j' < V.length := by omega
          obtain ⟨v1, v2⟩ := u4 j' hj'
          obtain ⟨v3, v4⟩ := h.cv j' hj'
          rw [v1, v2, v3, v4]
          exact Or.inr (Or.inr ⟨V.getD j' 0, h.vs _ (getD_mem hj'), rfl, rfl, rfl⟩)
      · rw [frm _ _ (by omega) (by omega) (by omega) (by omega) (by omega), frm _ _ (by omega) (by omega) (by omega) (by omega) (by omega), mI_n (by omega)]
        exact h.fz
    have TB : TkB n bt (mI (mI (mI (mI (mI M 4 k (if bnd x = 4 then 1 else if bnd x < 4 then 0 else mC.1 4 k)) 2 5 1) 2 6 (if bnd x < 4 then 1 else 0)) 3 Q.length (zN x)) 2 3 (zN (Q.length + 1))) (mI mR 99 35 (zN (c + 1))) := t.tb.cong (fun cc j w1 w2 w3 => frm cc j (by omega) (by omega) (by omega) (by omega) (by omega)) (fun cc j w1 w2 w3 => mI_n (by omega))
    obtain ⟨mC', mR', p', pl', b1, b2, _, b3, b4, b5, b6, b7, b8, b9⟩ := LQ1.adv hN TB (by rw [frm _ _ (by omega) (by omega) (by omega) (by omega) (by omega)]; exact t.tk.nC) (by rw [mI_n (by omega)]; exact t.tk.nR) t.pn i2
    rw [b1, b2, b_some, zN_s]
    refine ⟨mR', rfl, Or.inr ⟨b3.fl, mC', p', pl', nn', rfl, by omega, b3, b4, ?_, ?_, ?_, b5, b6, ⟨fun cc j q1 q2 q3 q4 q5 q6 => ?_, ?_⟩, fun cc j q1 q2 q3 => ?_⟩⟩
    · rw [b7 _ _ (by omega), mI_n (by omega), mI_n (by omega), mI_n (by omega), mI_s ⟨rfl, rfl⟩]
    · rw [b7 _ _ (by omega), mI_n (by omega), mI_n (by omega), mI_s ⟨rfl, rfl⟩]
    · rw [b7 _ _ (by omega), mI_n (by omega), mI_n (by omega), mI_n (by omega), mI_n (by omega), mI_s ⟨rfl, rfl⟩]
    · rw [b7 _ _ (by omega), frm _ _ (by omega) (by omega) (by omega) (by omega) (by omega)]
    · rw [b8]
      exact u6
    · rw [b9 _ _ (by omega), mI_n (by omega)]
theorem not_step {N n l f0 : Nat} {bt : Nat → Nat} {Q : List Nat} {k c s i p pl nn : Nat} {x2 x3 : Int32} {mC mR : Mem} (hN : 1000 ≤ N) (h : LQ l f0 [] Q k c s mC mR) (t : LT n bt i p pl mC mR) (hf : nn + i = N) (d : mC.1 2 5 = 1) (d6 : mC.1 2 6 = 1) (ek : mC.1 5 4 = zN 13) : ∃ mR1, (fX12_knot mR).bind (fun q => fX12_goOn N q) = some mR1 ∧ ((∃ mC', fX8_readLaw_89 N nn l x2 x3 (zN i) mC = some (0, mC') ∧ FlR mC' mR1 ∧ LFC l s k mC mC' ∧ LFR s mR mR1) ∨ (mR1.1 99 30 = 0 ∧ ∃ mC' p' pl' nn', fX8_readLaw_89 N nn l x2 x3 (zN i) mC = fX8_readLaw_89 N nn' l x2 x3 (zN (i + 1)) mC' ∧ nn' + (i + 1) = N ∧ LQ l f0 [] (13 :: Q) k (c + 1) s mC' mR1 ∧ LT n bt (i + 1) p' pl' mC' mR1 ∧ mC'.1 2 5 = 1 ∧ mC'.1 2 6 = 1 ∧ mC'.1 4 k = mC.1 4 k ∧ p ≤ p' ∧ (mC'.1 5 4 = -1 ∨ p < p') ∧ LFC l s k mC mC' ∧ LFR s mR mR1)) := by
  have i7 := t.i7
  have i2 := t.i2 (by omega) ek
  have L := h.len
  have hl := h.hl
  have ct := h.ct
  have aq := nSO Q
  rw [List.nil_append] at L ct
  obtain ⟨k1, k2, k3⟩ := h.op
  obtain ⟨c1, c2, c3⟩ := h.kn
  obtain ⟨nn', rfl, _⟩ := fuel (show 0 < nn by omega)
  rw [rl_due i7 d]
  unfold fX8_takeOperand
  rw [ek, if_neg (show ¬ (zN 13 = (23 : Int32)) from by decide), if_pos (show zN 13 = (13 : Int32) from rfl), d6, if_neg z10]
  obtain ⟨K1, K2⟩ := knot_ok h
  by_cases cc : c = 64
  · obtain ⟨a1, a2⟩ := K1 cc
    have F := FlR.mk t.tk (v := 2) (by omega)
    rw [a1, b_some, goOn_f F.2.2, a2, b_some, if_pos rfl, b_some, if_pos rfl]
    exact ⟨_, rfl, Or.inl ⟨_, rfl, F, LFC.fail, LFR.fail⟩⟩
  · obtain ⟨a1, a2⟩ := K2 (by omega)
    rw [a1, b_some, a2, b_some, if_neg z10, await_ok (t := Q.length) (by rw [mI_n (by omega)]; exact h.wt) (by omega), b_some, if_neg z10, b_some, if_neg z10]
    unfold fX8_readLaw_165
    have LQ1 : LQ l f0 [] (13 :: Q) k (c + 1) s (mI (mI (mI mC l 6 (zN (c + 1))) 3 Q.length (zN 13)) 2 3 (zN (Q.length + 1))) (mI mR 99 35 (zN (c + 1))) := by
      refine ⟨by rw [mI_n (by omega)]; exact h.fl, mI_s ⟨rfl, rfl⟩, ⟨?_, (h.pd).cong _ (fun j hj => ?_)⟩, ⟨k1, ?_, by rw [mI_n (by omega)]; exact k3⟩, ⟨by omega, ?_, mI_s ⟨rfl, rfl⟩⟩, ⟨?_, ?_⟩, ⟨?_, ?_⟩, fun v hv => absurd hv (by simp), fun j hj => absurd hj (by simp), fun j q1 q2 => ?_, by omega, ?_⟩
      · rw [mI_n (by omega), mI_s ⟨rfl, rfl⟩]
      · rw [List.nil_append] at hj
        rw [mI_n (by omega), mI_n (by omega), mI_n (by omega)]
      · rw [mI_n (by omega), mI_n (by omega), mI_n (by omega)]
        exact k2
      · rw [mI_n (by omega), mI_n (by omega), mI_s ⟨rfl, rfl⟩]
      · rw [mI_n (by omega), mI_n (by omega), mI_n (by omega)]
        exact h.sz.1
      · rw [mI_n (by omega)]
        exact h.sz.2
      · rw [List.nil_append, nS, if_neg (by omega)]
        omega
      · rw [List.nil_append, nO, if_neg (by omega)]
        omega
      · rw [mI_n (by omega), mI_n (by omega), mI_n (by omega), mI_n (by omega), mI_n (by omega), mI_n (by omega), mI_n (by omega), mI_n (by omega)]
        exact h.cm j q1 q2
      · rw [mI_n (by omega), mI_n (by omega), mI_n (by omega), mI_n (by omega), mI_n (by omega), mI_n (by omega), mI_n (by omega)]
        exact h.fz
    have TB : TkB n bt (mI (mI (mI mC l 6 (zN (c + 1))) 3 Q.length (zN 13)) 2 3 (zN (Q.length + 1))) (mI mR 99 35 (zN (c + 1))) := t.tb.cong (fun cc j w1 w2 w3 => by rw [mI_n (by omega), mI_n (by omega), mI_n (by omega)]) (fun cc j w1 w2 w3 => mI_n (by omega))
    obtain ⟨mC', mR', p', pl', b1, b2, _, b3, b4, b5, b6, b7, b8, b9⟩ := LQ1.adv hN TB (by rw [mI_n (by omega), mI_n (by omega), mI_n (by omega)]; exact t.tk.nC) (by rw [mI_n (by omega)]; exact t.tk.nR) t.pn i2
    rw [b1, b2, b_some, zN_s]
    refine ⟨mR', rfl, Or.inr ⟨b3.fl, mC', p', pl', nn', rfl, by omega, b3, b4, ?_, ?_, ?_, b5, b6, ⟨fun cc j q1 q2 q3 q4 q5 q6 => ?_, ?_⟩, fun cc j q1 q2 q3 => ?_⟩⟩
    · rw [b7 _ _ (by omega), mI_n (by omega), mI_n (by omega), mI_n (by omega)]
      exact d
    · rw [b7 _ _ (by omega), mI_n (by omega), mI_n (by omega), mI_n (by omega)]
      exact d6
    · rw [b7 _ _ (by omega), mI_n (by omega), mI_n (by omega), mI_n (by omega)]
    · rw [b7 _ _ (by omega), mI_n (by omega), mI_n (by omega), mI_n (by omega)]
    · rw [b8]
      rfl
    · rw [b9 _ _ (by omega), mI_n (by omega)]
