/-! can, pour, sit, rise, undo -/
theorem InvZ.nw2 {Z : Nat → Nat} {o nt nu nf : Nat} {mC mR mC' mR' : Mem} (h : InvZ Z o nt nu nf mC mR) (hB : BathR Z 43 0 mC' mR') (hC : ∀ c k, c < 43 ∨ 52 < c → mC'.1 c k = mC.1 c k) (hJ : mC'.2.1 63 11 = mC.2.1 63 11) (hr : mC'.2.2 = mC.2.2) (hR : ∀ c k, ¬ ((c = 126 ∨ c = 127 ∨ c = 129 ∨ c = 130) ∧ k < 6) → mR'.1 c k = mR.1 c k) : InvZ Z o nt nu nf mC' mR' := h.now hB (h.ps.cong h.nw.zz (hC _ _ (by omega)) (fun k => hC _ _ (by omega)) (fun c k a b e => hR _ _ (by omega)) (fun c k a b => hR _ _ (by omega)) (fun c k a b e => hR _ _ (by omega)) (hR _ _ (by omega))) ⟨fun c k q => hC c k (by omega), hJ, hr⟩ (fun c k p1 p2 p3 p4 p5 p6 p7 => hR c k (by omega))
theorem InvZ.sav {Z : Nat → Nat} {N o nt nu nf : Nat} {mC mR : Mem} (hN : 100 ≤ N) (h : InvZ Z o nt nu nf mC mR) : ∃ M M' u', fX7_save 43 mC = some M ∧ fX12_keepNow N mR = some M' ∧ InvZ Z o nt u' nf M M' ∧ (∀ c k, ¬ (c = 74 ∧ k = 1) → c ≠ 75 → M.1 c k = mC.1 c k) ∧ (∀ c k, ¬ (c = 99 ∧ k = 51) → ¬ (123 ≤ c ∧ c ≤ 125 ∧ 3 ≤ k) → ¬ (126 ≤ c ∧ c ≤ 133 ∧ 18 ≤ k) → M'.1 c k = mR.1 c k) := by
  obtain ⟨M, M', u', a1, a2, a3, a4, a5, a6⟩ := save_rel hN h.nw h.ps
  refine ⟨M, M', u', a1, a2, ?_, a4, a6⟩
  refine h.now (h.nw.cong (fun c k _ _ => a4 c k (by omega) (by omega)) (by rw [a5]) (fun c _ _ => a6 c 0 (by omega) (by omega) (by omega)) (fun c k _ _ _ => a6 c _ (by omega) (by omega) (by omega))) a3 ⟨fun c k q => a4 c k (by omega) (by omega), by rw [a5], by rw [a5]⟩ (fun c k p1 p2 p3 p4 p5 p6 p7 => a6 c k (by omega) (by omega) (by omega))
theorem pou_dec (x : Int32) (m : Mem) : (fX11_isPoured x m = some 0 ∧ (x < 1 ∨ (¬ x < 1 ∧ ¬ x ≤ 60))) ∨ ∃ l, 1 ≤ l ∧ l ≤ 60 ∧ x = zN l ∧ fX11_isPoured x m = some 1 ∧ ¬ x < 1 ∧ x ≤ 60 := by
  unfold fX11_isPoured
  by_cases q : x < 1
  · rw [if_pos q]
    exact Or.inl ⟨rfl, Or.inl q⟩
  · rw [if_neg q]
    rcases zN_or x with w | ⟨n, hn, rfl⟩
    · exact absurd (Int32.lt_of_lt_of_le w (show (0 : Int32) ≤ 1 from by decide)) q
    · have q' : ¬ (zN n < zN 1) := q
      rw [zN_lt hn (by omega)] at q'
      have e : (zN n ≤ (60 : Int32)) = (n ≤ 60) := zN_le (b := 60) hn (by omega)
      have e' : ((60 : Int32) < zN n) = (60 < n) := zN_lt (a := 60) (by omega) hn
      by_cases q2 : n ≤ 60
      · rw [if_neg (by rw [e']; omega), e]
        exact Or.inr ⟨n, by omega, q2, rfl, rfl, q, q2⟩
      · rw [if_pos (by rw [e']; omega), e]
        exact Or.inl ⟨rfl, Or.inr ⟨q, q2⟩⟩
theorem op8 {N : Nat} (hN : 100 ≤ N) : OP8 Inv N := by
  intro mC mR x1 x2 ⟨Z, o, nt, nu, nf, h⟩
  have h := h.th 0
  have hlo := h.lo
  have hz := h.od.zb
  unfold fX11_add fX12_add
  generalize mI mR 99 0 (0 : Int32) = R at h ⊢
  rw [h.sp.1, if_pos hlo]
  rcases tub_dec h.od x1 with ⟨t, t1, rfl, t3, t4⟩ | ⟨t3, t4⟩
  · rw [t3, t4, b_some, b_some, if_neg z10, if_neg z10]
    rcases pou_dec x2 mC with ⟨p1, p2⟩ | ⟨l, l1, l2, rfl, p1, p2, p3⟩
    · rw [p1, b_some, if_pos rfl]
      rcases p2 with p2 | ⟨p2, p3⟩
      · rw [if_pos p2]
        exact ⟨-1, _, _, rfl, rfl, h.i⟩
      · rw [if_neg p2, if_neg p3]
        exact ⟨-1, _, _, rfl, rfl, h.i⟩
    · rw [p1, b_some, if_neg z10, if_neg p2, if_pos p3, g_in (k := t) (by omega) (by omega), zN_cl (n := t) (by omega)]
      have P := pour_rel (b := 43) (s := 0) (g := 990) h.nw t1 (m := l) (by omega) (by omega)
      simp only [Nat.mul_zero, Nat.zero_add] at P
      rcases P with ⟨r1, r2, r3⟩ | ⟨r1, r2, _⟩
      · rw [r1, b_some, if_pos rfl, if_neg r3]
        exact ⟨-2, _, _, rfl, rfl, h.i⟩
      · rw [r1, b_some, if_neg z10, if_pos r2]
        obtain ⟨M, M', u', s1, s2, I, s4, s5⟩ := h.sav hN
        rw [s1, s2, b_some, b_some]
        have P := pour_rel (b := 43) (s := 0) (g := 990) I.nw t1 (m := l) (by omega) (by omega)
        simp only [Nat.mul_zero, Nat.zero_add] at P
        rcases P with ⟨r1, _, r3⟩ | ⟨r3, r4, v, w, w1, w2, w3⟩
        · rw [s5 _ _ (by omega) (by omega) (by omega)] at r3
          exact absurd r2 r3
        · rw [show fX0_pourIn 43 (zN t) (zN l) (990 : Int32) M = _ from w1, b_some, show fX12_mixes (0 : Int32) (zN t) (zN l) (990 : Int32) M' = _ from w2, b_some, g_ii (by omega) (by omega), g_ii (by omega) (by omega)]
          refine ⟨v, _, _, ?_, ?_, (I.nw2 w3 (fun c k q => ?_) rfl rfl (fun c k q => ?_)).i⟩
          · rw [mI_n (by omega), mI_s ⟨rfl, rfl⟩]
          · rw [mI_n (by omega), mI_s ⟨rfl, rfl⟩]
          · rw [mI_n (by omega), mI_n (by omega)]
          · rw [mI_n (by omega), mI_n (by omega)]
  · rw [t3, t4, b_some, b_some, if_pos rfl, if_pos rfl]
    exact ⟨-1, _, _, rfl, rfl, h.i⟩
theorem op10 {N : Nat} (hN : 100 ≤ N) : OP10 Inv N := by
  intro mC mR x1 x2 ⟨Z, o, nt, nu, nf, h⟩
  have h := h.th 0
  have hlo := h.lo
  have hz := h.od.zb
  unfold fX11_sit fX12_sit
  generalize mI mR 99 0 (0 : Int32) = R at h ⊢
  rw [h.sp.1, if_pos hlo]
  rcases kni_dec h.od x1 with ⟨k, k1, rfl, k3, k4⟩ | ⟨k3, k4⟩
  · rw [k3, k4, b_some, b_some, if_neg z10, if_neg z10, if_pos hlo]
    rcases tub_dec h.od x2 with ⟨t, t1, rfl, t3, t4⟩ | ⟨t3, t4⟩
    · rw [t3, t4, b_some, b_some, if_neg z10, if_neg z10, g_in (by omega) (by omega), zN_cl (by omega)]
      rcases who_rel hN h.od h.nw t1 with ⟨w1, w2⟩ | ⟨j, w0, w1, w2⟩
      · rw [show mC.1 46 t = -2 from w1, if_pos (by decide), show fX12_whoIn N (0 : Int32) (zN t) R = some (-1) from w2, b_some, if_pos rfl]
        obtain ⟨M, M', u', s1, s2, I, s4, s5⟩ := h.sav hN
        rw [s1, s2, b_some, b_some]
        obtain ⟨M2, e1, e2, e3, e4, e5, e6, e7⟩ := enter_rel (o := o) (b := 43) (s := 0) I.nw k1 t1 (by rw [s4 _ _ (by omega) (by omega)]; exact w1)
        simp only [Nat.mul_zero, Nat.zero_add] at e2 e3
        rw [e1, b_some, if_pos (Or.inr rfl), show fX12_sits (0 : Int32) (zN k) (zN t) M' = _ from e2, b_some]
        refine ⟨1, _, _, rfl, rfl, (I.nw2 e3 (fun c k' q => ?_) (by rw [e5]) (by rw [e5]) (fun c k' q => ?_)).i⟩
        · exact e6 c k' (by omega) (by omega) (by omega)
        · rw [mI_n (by omega), mI_n (by omega)]
      · rw [show mC.1 46 t = zN j from w1, if_neg (znn (by omega)), show fX12_whoIn N (0 : Int32) (zN t) R = some (zN j) from w2, b_some, if_neg (show ¬ (zN j = (-1 : Int32)) from by rw [zN_m1 (by omega)]; exact id)]
        exact ⟨0, _, _, rfl, rfl, h.i⟩
    · rw [t3, t4, b_some, b_some, if_pos rfl, if_pos rfl]
      exact ⟨0, _, _, rfl, rfl, h.i⟩
  · rw [k3, k4, b_some, b_some, if_pos rfl, if_pos rfl]
    exact ⟨0, _, _, rfl, rfl, h.i⟩
theorem op11 {N : Nat} (hN : 100 ≤ N) : OP11 Inv N := by
  intro mC mR x1 ⟨Z, o, nt, nu, nf, h⟩
  have h := h.th 0
  have hlo := h.lo
  have hz := h.od.zb
  unfold fX11_rise fX12_rise
  generalize mI mR 99 0 (0 : Int32) = R at h ⊢
  rw [h.sp.1, if_pos hlo]
  rcases kni_dec h.od x1 with ⟨k, k1, rfl, k3, k4⟩ | ⟨k3, k4⟩
  · rw [k3, k4, b_some, b_some, if_neg z10, if_neg z10, g_in (by omega) (by omega), g_in (by omega) (by omega), zN_cl (by omega)]
    have P := h.nw.pl k (by omega)
    simp only [Nat.mul_zero, Nat.zero_add] at P
    rcases P with ⟨p1, p2⟩ | ⟨_, t, t1, p1, p2, _⟩
    · rw [show mC.1 48 k = -2 from p1, p2, if_neg (by decide), if_pos rfl]
      exact ⟨0, _, _, rfl, rfl, h.i⟩
    · rw [show mC.1 48 k = zN t from p1, p2, if_pos (show (0 : Int32) ≤ zN t from zle' (a := 0) (by omega) (by omega) (by omega)), if_neg (show ¬ (zN t = (-1 : Int32)) from by rw [zN_m1 (by omega)]; exact id)]
      obtain ⟨M, M', u', s1, s2, I, s4, s5⟩ := h.sav hN
      rw [s1, s2, b_some, b_some]
      obtain ⟨M2, e1, e2, e3, e4, e5, e6, e7, e8⟩ := leave_rel (o := o) (b := 43) (s := 0) I.nw (show k < 6 by omega)
      simp only [Nat.mul_zero, Nat.zero_add] at e2 e3
      rw [e1, b_some, show fX12_leaves (0 : Int32) (zN k) M' = _ from e2, b_some]
      refine ⟨1, _, _, rfl, rfl, (I.nw2 e3 (fun c k' q => ?_) (by rw [e8]) (by rw [e8]) (fun c k' q => ?_)).i⟩
      · exact e7 c k' (by omega) (by omega) (by omega)
      · rw [mI_n (by omega), mI_n (by omega)]
  · rw [k3, k4, b_some, b_some, if_pos rfl, if_pos rfl]
    exact ⟨0, _, _, rfl, rfl, h.i⟩
theorem op9 {N : Nat} (hN : 100 ≤ N) : OP9 Inv N := by
  intro mC mR x1 x2 x3 ⟨Z, o, nt, nu, nf, h⟩
  have h := h.th 0
  have hlo := h.lo
  have hz := h.od.zb
  unfold fX11_pour fX12_pour
  generalize mI mR 99 0 (0 : Int32) = R at h ⊢
  rw [h.sp.1, if_pos hlo]
  rcases tub_dec h.od x1 with ⟨f, f1, rfl, f3, f4⟩ | ⟨t3, t4⟩
  · rw [f3, f4, b_some, b_some, if_neg z10, if_neg z10, if_pos hlo]
    rcases tub_dec h.od x2 with ⟨t, t1, rfl, t3, t4⟩ | ⟨t3, t4⟩
    · rw [t3, t4, b_some, b_some, if_neg z10, if_neg z10]
      by_cases ft : f = t
      · rw [ft, if_pos rfl, if_pos rfl]
        exact ⟨-1, _, _, rfl, rfl, h.i⟩
      · rw [if_neg (zne (by omega) (by omega) ft), if_neg (zne (by omega) (by omega) ft)]
        rcases pou_dec x3 mC with ⟨p1, p2⟩ | ⟨l, l1, l2, rfl, p1, p2, p3⟩
        · rw [p1, b_some, if_pos rfl]
          rcases p2 with p2 | ⟨p2, p3⟩
          · rw [if_pos p2]
            exact ⟨-1, _, _, rfl, rfl, h.i⟩
          · rw [if_neg p2, if_neg p3]
            exact ⟨-1, _, _, rfl, rfl, h.i⟩
        · rw [p1, b_some, if_neg z10, if_neg p2, if_pos p3, g_in (k := f) (by omega) (by omega), g_in (k := f) (by omega) (by omega), zN_cl (n := f) (by omega)]
          have F := h.nw.eq 0 f (by omega) (by omega)
          have L := h.nw.li f f1
          have H := h.nw.he f f1
          simp only [Nat.mul_zero, Nat.zero_add] at F L H
          obtain ⟨a, a1, a2, a3⟩ := L
          obtain ⟨g, g1, g2, g3⟩ := H
          rw [show mC.1 44 f = R.1 126 f from F, a3]
          by_cases al : a ≤ l
          · rw [if_pos (zle' (by omega) (by omega) al), if_pos (zle' (by omega) (by omega) al)]
            exact ⟨-2, _, _, rfl, rfl, h.i⟩
          · rw [if_neg (zle (by omega) (by omega) (by omega)), if_neg (zle (by omega) (by omega) (by omega)), g_in (k := t) (by omega) (by omega), zN_cl (n := t) (by omega)]
            have P := pour_rel (b := 43) (s := 0) (g := 990) h.nw t1 (m := l) (by omega) (by omega)
            simp only [Nat.mul_zero, Nat.zero_add] at P
            rcases P with ⟨r1, r2, r3⟩ | ⟨r1, r2, _⟩
            · rw [r1, b_some, if_pos rfl, if_neg r3]
              exact ⟨-2, _, _, rfl, rfl, h.i⟩
            · rw [r1, b_some, if_neg z10, if_pos r2]
              obtain ⟨M, M', u', s1, s2, I, s4, s5⟩ := h.sav hN
              have G := h.nw.eq 1 f (by omega) (by omega)
              simp only [Nat.mul_zero, Nat.zero_add] at G
              have G1 : M.1 45 f = zN g := by
                rw [s4 _ _ (by omega) (by omega)]
                exact G.trans g3
              have G2 : M'.1 127 f = zN g := by
                rw [s5 _ _ (by omega) (by omega) (by omega)]
                exact g3
              rw [s1, s2, b_some, b_some, g_ii (by omega) (by omega), g_ii (by omega) (by omega), G1, G2]
              have P := pour_rel (b := 43) (s := 0) (g := g) I.nw t1 (m := l) (by omega) (by omega)
              simp only [Nat.mul_zero, Nat.zero_add] at P
              rcases P with ⟨r1, _, r3⟩ | ⟨r3, r4, v, w, w1, w2, w3⟩
              · rw [s5 _ _ (by omega) (by omega) (by omega)] at r3
                exact absurd r2 r3
              · rw [w1, b_some, show fX12_mixes (0 : Int32) (zN t) (zN l) (zN g) M' = _ from w2, b_some]
                have A1 : (mI (mI M (43 + 2) t v) (43 + 1) t w).1 44 f = zN a := by
                  rw [mI_n (by omega), mI_n (by omega), s4 _ _ (by omega) (by omega)]
                  exact F.trans a3
                have A2 : (mI (mI M' 127 t v) 126 t w).1 126 f = zN a := by
                  rw [mI_n (by omega), mI_n (by omega), s5 _ _ (by omega) (by omega) (by omega)]
                  exact a3
                have B := w3.up (j := 0) (k := f) (by omega) (by omega) (zN (a - l)) (fun _ _ => ⟨_, by omega, by omega, rfl⟩) (fun z => absurd z (by omega)) (fun z => absurd z (by omega))
                simp only [Nat.mul_zero, Nat.zero_add] at B
                simp (disch := omega) only [g_ii, g_in, zN_cl]
                rw [A1, A2, zN_sub (by omega)]
                refine ⟨v, _, _, ?_, ?_, (I.nw2 B (fun c k q => ?_) rfl rfl (fun c k q => ?_)).i⟩
                · rw [mI_n (by omega), mI_n (by omega), mI_s ⟨rfl, rfl⟩]
                  rfl
                · rw [mI_n (by omega), mI_n (by omega), mI_s ⟨rfl, rfl⟩]
                  rfl
                · have : 43 + pc 0 = 44 := rfl
                  rw [mI_n (by omega), mI_n (by omega), mI_n (by omega)]
                · have : pr 0 = 126 := rfl
                  rw [mI_n (by omega), mI_n (by omega), mI_n (by omega)]
    · rw [t3, t4, b_some, b_some, if_pos rfl, if_pos rfl]
      exact ⟨-1, _, _, rfl, rfl, h.i⟩
  · rw [t3, t4, b_some, b_some, if_pos rfl, if_pos rfl]
    exact ⟨-1, _, _, rfl, rfl, h.i⟩
