/-! what was seen -/
theorem zN_p (n : Nat) : zN (n + 1) - (1 : Int32) = zN n := by
  rw [show (1 : Int32) = zN 1 from rfl, zN_sub (by omega), Nat.add_sub_cancel]
def rcC (n : Nat) (x1 x2 x3 x4 : Int32) (m : Mem) : Mem := mI (mI (mI (mI (mI (mI m 77 n x1) 78 n x2) 79 n x3) 80 n (vp_nar .boolean x4)) 81 n (-1)) 76 6 (zN (n + 1))
theorem record_eq {n : Nat} {m : Mem} (x1 x2 x3 x4 : Int32) (e : m.1 76 6 = zN n) (hn : n < 24) : fX1_record x1 x2 x3 x4 m = some (zN n, rcC n x1 x2 x3 x4 m) := by
  unfold fX1_record
  rw [e, if_neg (znn (by omega)), if_pos (show zN n < (24 : Int32) from by rw [show (24 : Int32) = zN 24 from rfl, zN_lt (by omega) (by omega)]; exact hn)]
  simp (disch := omega) only [mI_n, mI_s, e, g_in, g_ii, zN_cl, zN_s, zN_p]
  rfl
theorem record_no {n : Nat} {m : Mem} (x1 x2 x3 x4 : Int32) (e : m.1 76 6 = zN n) (hn : n = 24) : fX1_record x1 x2 x3 x4 m = some (-1, m) := by
  unfold fX1_record
  rw [e, if_neg (znn (by omega)), if_neg (show ¬ (zN n < (24 : Int32)) from zlt (c := 24) (by omega) (by omega) (by omega))]
theorem FacR.more {Z : Nat → Nat} {n : Nat} {mC mR mC' mR' : Mem} (h : FacR Z n mC mR) (hn : n < 24) (hC : ∀ c k, 76 ≤ c → c ≤ 81 → ¬ (77 ≤ c ∧ k = n) → ¬ (c = 76 ∧ k = 6) → mC'.1 c k = mC.1 c k) (h6 : mC'.1 76 6 = zN (n + 1)) (h58 : mR'.1 99 58 = zN (n + 1)) (h59 : mR'.1 99 59 = mR.1 99 59) (hR : ∀ c k, 136 ≤ c → c ≤ 140 → k ≠ n → mR'.1 c k = mR.1 c k) (hF : FctR Z n mC' mR') : FacR Z (n + 1) mC' mR' := by
  refine ⟨by omega, h6, h58, ?_, fun i hi => ?_⟩
  · rw [hC _ _ (by omega) (by omega) (by omega) (by omega), h59]
    rcases h.kb with q | ⟨q, q1, q2, q3⟩
    · exact Or.inl q
    · exact Or.inr ⟨q, by omega, q2, q3⟩
  · by_cases e : i = n
    · rw [e]
      exact hF
    · have q := h.fc i (by omega)
      unfold FctR at q ⊢
      rw [hC 81 _ (by omega) (by omega) (by omega) (by omega), hC 77 _ (by omega) (by omega) (by omega) (by omega), hC 78 _ (by omega) (by omega) (by omega) (by omega), hC 79 _ (by omega) (by omega) (by omega) (by omega), hC 80 _ (by omega) (by omega) (by omega) (by omega), hR 140 _ (by omega) (by omega) e, hR 139 _ (by omega) (by omega) e, hR 138 _ (by omega) (by omega) e, hR 137 _ (by omega) (by omega) e, hR 136 _ (by omega) (by omega) e]
      exact q
theorem InvZ.facs {Z : Nat → Nat} {o nt nu nf nf' : Nat} {mC mR mC' mR' : Mem} (h : InvZ Z o nt nu nf mC mR) (hF : FacR Z nf' mC' mR') (hC : ∀ c k, c < 76 → mC'.1 c k = mC.1 c k) (hJ : mC'.2 = mC.2) (hR : ∀ c k, ¬ (c = 99 ∧ (k = 58 ∨ k = 59)) → ¬ (136 ≤ c ∧ c ≤ 140) → mR'.1 c k = mR.1 c k) : InvZ Z o nt nu nf' mC' mR' := by
  have hz := h.nw.zz
  refine ⟨h.od.cong (fun c k q => hC c k (by omega)) (fun c k a b => hR c k (by omega) (by omega)), ?_, h.nw.cong (fun c k a b => hC c k (by omega)) (by rw [hJ]) (fun c a b => hR c _ (by omega) (by omega)) (fun c k a b e => hR c _ (by omega) (by omega)), ?_, h.tp.cong (fun c k q => hC c k (by omega)) (hR _ _ (by omega) (by omega)) (fun k => hR _ _ (by omega) (by omega)), ?_, ?_, h.ps.cong hz (hC _ _ (by omega)) (fun k => hC _ _ (by omega)) (fun c k a b e => hR _ _ (by omega) (by omega)) (fun c k a b => hR _ _ (by omega) (by omega)) (fun c k a b e => hR _ _ (by omega) (by omega)) (hR _ _ (by omega) (by omega)), hF, h.cs.cong (fun w => hC _ _ (by omega)) (fun o i a b => hC _ _ (by omega))⟩
  · rw [hJ]
    exact h.sp
  · rw [hC 0 8 (by omega), hR 99 50 (by omega) (by omega)]
    rcases h.im with q | ⟨q1, q2, q3⟩
    · exact Or.inl q
    · exact Or.inr ⟨q1, q2, q3.cong (fun c k a b => hC c k (by omega)) (by rw [hJ]) (fun c a b => hR c _ (by omega) (by omega)) (fun c k a b e => hR c _ (by omega) (by omega))⟩
  · rw [hC 2 7 (by omega), hC 2 8 (by omega), hR 99 32 (by omega) (by omega), hR 99 33 (by omega) (by omega)]
    exact h.ft
  · rw [hR 99 52 (by omega) (by omega), hR 99 53 (by omega) (by omega)]
    exact h.ty
theorem op28 {N : Nat} : OP28 Inv N := by
  intro mC mR x1 ⟨Z, o, nt, nu, nf, h⟩
  have h := h.th 0
  unfold fX11_known fX12_known
  generalize mI mR 99 0 (0 : Int32) = R at h ⊢
  rw [h.fa.nc, h.fa.nr]
  have hb := h.fa.nb
  by_cases q : x1 < -1
  · rw [if_pos q, if_pos q]
    exact ⟨0, _, _, rfl, rfl, h.i⟩
  · rw [if_neg q, if_neg q]
    by_cases q2 : x1 ≤ zN nf
    · rw [if_pos q2, if_pos q2]
      have K : InvZ Z o nt nu nf (mI mC 76 7 x1) (mI R 99 59 x1) := by
        refine h.facs ⟨hb, ?_, ?_, ?_, fun i hi => ?_⟩ (fun c k _ => mI_n (by omega)) rfl (fun c k _ _ => mI_n (by omega))
        · rw [mI_n (by omega)]
          exact h.fa.nc
        · rw [mI_n (by omega)]
          exact h.fa.nr
        · rw [mI_s ⟨rfl, rfl⟩, mI_s ⟨rfl, rfl⟩]
          rcases zN_or x1 with w | ⟨n, hn, rfl⟩
          · refine Or.inl ?_
            have e : x1 = -1 := by
              have a1 : ¬ (x1.toInt < -1) := fun z => q (Int32.lt_iff_toInt_lt.mpr z)
              have a2 : x1.toInt < 0 := Int32.lt_iff_toInt_lt.mp w
              exact Int32.toInt_inj.mp (by rw [show (-1 : Int32).toInt = -1 from rfl]; omega)
            exact ⟨e, e⟩
          · rw [zN_le hn (by omega)] at q2
            exact Or.inr ⟨n, q2, rfl, rfl⟩
        · have w := h.fa.fc i hi
          unfold FctR at w ⊢
          rw [mI_n (by omega), mI_n (by omega), mI_n (by omega), mI_n (by omega), mI_n (by omega), mI_n (by omega), mI_n (by omega), mI_n (by omega), mI_n (by omega), mI_n (by omega)]
          exact w
      exact ⟨1, _, _, rfl, rfl, K.i⟩
    · rw [if_neg q2, if_neg q2]
      exact ⟨0, _, _, rfl, rfl, h.i⟩
theorem op27 {N : Nat} : OP27 Inv N := by
  intro mC mR x1 ⟨Z, o, nt, nu, nf, h⟩
  have h := h.th 0
  unfold fX11_strike fX12_strike fX1_recordStrike
  generalize mI mR 99 0 (0 : Int32) = R at h ⊢
  have hb := h.fa.nb
  rw [h.fa.nc, h.fa.nr]
  rcases zN_or x1 with q | ⟨f, hf, rfl⟩
  · rw [if_pos q, if_pos q, b_some]
    exact ⟨-1, _, _, rfl, rfl, h.i⟩
  · rw [if_neg (znn hf), if_neg (znn hf)]
    by_cases q : f < nf
    · rw [if_pos (show zN f < zN nf from by rw [zN_lt hf (by omega)]; exact q), if_neg (zle (by omega) hf q)]
      by_cases e : nf = 24
      · rw [if_pos (show zN nf = (24 : Int32) from by rw [e]; rfl), record_no _ _ _ _ h.fa.nc e, b_some, if_pos (show (-1 : Int32) < 0 from by decide), b_some]
        exact ⟨-1, _, _, rfl, rfl, h.i⟩
      · rw [if_neg (show ¬ (zN nf = (24 : Int32)) from zne (c := 24) (by omega) (by omega) e), record_eq _ _ _ _ h.fa.nc (by omega), b_some, if_neg (znn (by omega)), if_neg (show ¬ ((24 : Int32) ≤ zN nf) from zle (a := 24) (by omega) (by omega) (by omega)), g_in (by omega) (by omega), g_in (by omega) (by omega), zN_cl (by omega), b_some]
        have nr := h.fa.nr
        simp (disch := omega) only [mI_n, mI_s, nr, zN_s, zN_p]
        refine ⟨_, _, _, rfl, rfl, InvZ.i (Z := Z) (o := o) (nt := nt) (nu := nu) (nf := nf + 1) ?_⟩
        refine h.facs (h.fa.more (by omega) (fun c k a b p q => ?_) ?_ (mI_s ⟨rfl, rfl⟩) ?_ (fun c k a b p => ?_) ⟨?_, Or.inr ⟨⟨f, q, ?_⟩, ?_⟩⟩) (fun c k a => ?_) rfl (fun c k a b => ?_)
        · unfold rcC
          rw [mI_n (by omega), mI_n (by omega), mI_n (by omega), mI_n (by omega), mI_n (by omega), mI_n (by omega), mI_n (by omega)]
        · unfold rcC
          rw [mI_n (by omega), mI_s ⟨rfl, rfl⟩]
        · rw [mI_n (by omega), mI_n (by omega)]
        · rw [mI_n (by omega), mI_n (by omega)]
        · rw [mI_s ⟨rfl, rfl⟩, mI_n (by omega), mI_s ⟨rfl, rfl⟩]
        · rw [mI_n (by omega), mI_s ⟨rfl, rfl⟩]
        · unfold rcC
          rw [mI_n (by omega), mI_n (by omega), mI_n (by omega), mI_n (by omega), mI_n (by omega), mI_n (by omega), mI_s ⟨rfl, rfl⟩]
        · unfold rcC
          rw [mI_n (by omega), mI_n (by omega), mI_n (by omega), mI_n (by omega), mI_n (by omega), mI_n (by omega), mI_n (by omega)]
        · rw [mI_n (by omega), mI_n (by omega)]
    · rw [if_neg (show ¬ (zN f < zN nf) from zlt hf (by omega) (by omega)), if_pos (zle' (by omega) hf (by omega)), b_some]
      exact ⟨-1, _, _, rfl, rfl, h.i⟩
theorem op26 {N : Nat} : OP26 Inv N := by
  intro mC mR x1 x2 x3 x4 ⟨Z, o, nt, nu, nf, h⟩ hx4
  have h := h.th 0
  have hlo := h.lo
  have hz := h.od.zb
  unfold fX11_see fX12_see
  generalize mI mR 99 0 (0 : Int32) = R at h ⊢
  have hb := h.fa.nb
  by_cases e1 : x1 < 1
  · rw [if_pos e1, if_pos e1]
    exact ⟨-1, _, _, rfl, rfl, h.i⟩
  · rw [if_neg e1, if_neg e1]
    rcases rng (x := x1) (hi := 60) (by omega) with q | ⟨q1, q2, _⟩ | ⟨v, v1, rfl, q1, q2, _⟩
    · exact absurd (Int32.lt_of_lt_of_le q (show (0 : Int32) ≤ 1 from by decide)) e1
    · rw [if_pos (show (60 : Int32) < x1 from q2), if_pos (show (60 : Int32) < x1 from q2)]
      exact ⟨-1, _, _, rfl, rfl, h.i⟩
    · have v0 : 1 ≤ v := by
        have e1 : ¬ (zN v < zN 1) := e1
        rw [zN_lt (by omega) (by omega)] at e1
        omega
      rw [if_neg (show ¬ ((60 : Int32) < zN v) from q2), if_neg (show ¬ ((60 : Int32) < zN v) from q2), h.sp.1, if_pos hlo]
      rcases kni_dec h.od x2 with ⟨t, t1, rfl, t3, t4⟩ | ⟨t3, t4⟩
      · rw [t3, t4, b_some, b_some, if_neg z10, if_neg z10]
        rcases rng (x := x3) (hi := 99) (by omega) with q | ⟨q1, q2, q3⟩ | ⟨w, w1, rfl, q1, q2, q3⟩
        · rw [if_pos q, if_pos q]
          exact ⟨-1, _, _, rfl, rfl, h.i⟩
        · rw [if_neg q1, if_neg q1, if_neg (show ¬ (x3 ≤ (99 : Int32)) from q3), if_pos (show (99 : Int32) < x3 from q2)]
          exact ⟨-1, _, _, rfl, rfl, h.i⟩
        · rw [if_neg q1, if_neg q1, if_pos (show zN w ≤ (99 : Int32) from q3), if_neg (show ¬ ((99 : Int32) < zN w) from q2), h.fa.nr]
          by_cases e : nf = 24
          · rw [if_pos (show zN nf = (24 : Int32) from by rw [e]; rfl), record_no _ _ _ _ h.fa.nc e, b_some]
            exact ⟨-1, _, _, rfl, rfl, h.i⟩
          · have nr := h.fa.nr
            rw [if_neg (show ¬ (zN nf = (24 : Int32)) from zne (c := 24) (by omega) (by omega) e), record_eq _ _ _ _ h.fa.nc (by omega), b_some]
            simp (disch := omega) only [mI_n, mI_s, nr, g_in, g_ii, zN_cl, zN_s, zN_p]
            have hx : vp_nar .boolean x4 = x4 := by
              rcases hx4 with rfl | rfl <;> rfl
            rw [hx]
            refine ⟨_, _, _, rfl, rfl, InvZ.i (Z := Z) (o := o) (nt := nt) (nu := nu) (nf := nf + 1) ?_⟩
            refine h.facs (h.fa.more (by omega) (fun c k a b p q => ?_) ?_ (mI_s ⟨rfl, rfl⟩) ?_ (fun c k a b p => ?_) ⟨?_, Or.inl ⟨?_, ⟨v, v0, v1, ?_, ?_⟩, ⟨t, t1, ?_, ?_⟩, ?_, ?_, ?_⟩⟩) (fun c k a => ?_) rfl (fun c k a b => ?_)
            · unfold rcC
              rw [mI_n (by omega), mI_n (by omega), mI_n (by omega), mI_n (by omega), mI_n (by omega), mI_n (by omega)]
            · unfold rcC
              rw [mI_s ⟨rfl, rfl⟩]
            · simp (disch := omega) only [mI_n]
            · simp (disch := omega) only [mI_n]
            · unfold rcC
              simp (disch := omega) only [mI_n, mI_s]
            · simp (disch := omega) only [mI_n, mI_s]
            · unfold rcC
              simp (disch := omega) only [mI_n, mI_s]
            · simp (disch := omega) only [mI_n, mI_s]
            · unfold rcC
              simp (disch := omega) only [mI_n, mI_s]
            · simp (disch := omega) only [mI_n, mI_s]
            · unfold rcC
              simp (disch := omega) only [mI_n, mI_s]
            · unfold rcC
              simp (disch := omega) only [mI_n, mI_s, hx]
            · simp (disch := omega) only [mI_n, mI_s]
              exact hx4
            · unfold rcC
              rw [mI_n (by omega), mI_n (by omega), mI_n (by omega), mI_n (by omega), mI_n (by omega), mI_n (by omega)]
            · simp (disch := omega) only [mI_n]
      · rw [t3, t4, b_some, b_some, if_pos rfl, if_pos rfl]
        exact ⟨-1, _, _, rfl, rfl, h.i⟩
