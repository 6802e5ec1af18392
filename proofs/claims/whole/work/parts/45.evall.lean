/-! the laws' worth: the loop -/
def EV (L : Nat) (mC mR : Mem) (n : Nat) : Prop := (∀ j, j < n → mC.2.1 (L + 6) j = mR.2.1 122 j ∧ Sm (mC.2.1 (L + 6) j)) ∧ (∀ j, j < 7 → mC.2.1 (L + 5) j = mR.2.1 121 j ∧ Sm (mC.2.1 (L + 5) j)) ∧ mR.1 99 38 = zN n
theorem EV.push {L : Nat} {mC mR : Mem} {n : Nat} {v : Int64} (h : EV L mC mR n) (hv : Sm v) : EV L (mJ mC (L + 6) n v) (mI (mJ mR 122 n v) 99 38 (zN (n + 1))) (n + 1) := by
  refine ⟨fun j hj => ?_, fun j hj => ?_, mI_s ⟨rfl, rfl⟩⟩
  · rw [mI_2]
    by_cases q : j = n
    · rw [mJ_s ⟨rfl, q⟩, mJ_s ⟨rfl, q⟩]
      exact ⟨rfl, hv⟩
    · rw [mJ_n (by omega), mJ_n (by omega)]
      exact h.1 j (by omega)
  · rw [mI_2, mJ_n (by omega), mJ_n (by omega)]
    exact h.2.1 j hj
theorem EV.set {L : Nat} {mC mR : Mem} {n : Nat} {v : Int64} (h : EV L mC mR (n + 1)) (hv : Sm v) : EV L (mJ mC (L + 6) n v) (mJ mR 122 n v) (n + 1) := by
  refine ⟨fun j hj => ?_, fun j hj => ?_, h.2.2⟩
  · by_cases q : j = n
    · rw [mJ_s ⟨rfl, q⟩, mJ_s ⟨rfl, q⟩]
      exact ⟨rfl, hv⟩
    · rw [mJ_n (by omega), mJ_n (by omega)]
      exact h.1 j (by omega)
  · rw [mJ_n (by omega), mJ_n (by omega)]
    exact h.2.1 j hj
theorem EV.pop {L : Nat} {mC mR : Mem} {n : Nat} {v : Int64} (h : EV L mC mR (n + 2)) (hv : Sm v) : EV L (mJ mC (L + 6) n v) (mJ (mI mR 99 38 (zN (n + 1))) 122 n v) (n + 1) := by
  refine ⟨fun j hj => ?_, fun j hj => ?_, ?_⟩
  · by_cases q : j = n
    · rw [mJ_s ⟨rfl, q⟩, mJ_s ⟨rfl, q⟩]
      exact ⟨rfl, hv⟩
    · rw [mJ_n (by omega), mJ_n (by omega), mI_2]
      exact h.1 j (by omega)
  · rw [mJ_n (by omega), mJ_n (by omega), mI_2]
    exact h.2.1 j hj
  · rw [mJ_1]
    exact mI_s ⟨rfl, rfl⟩
theorem zlt {a c : Nat} (ha : a < 2147483648) (hc : c < 2147483648) (h : c ≤ a) : ¬ (zN a < zN c) := by
  rw [zN_lt ha hc]
  omega
theorem zle {a c : Nat} (ha : a < 2147483648) (hc : c < 2147483648) (h : c < a) : ¬ (zN a ≤ zN c) := by
  rw [zN_le ha hc]
  omega
theorem zne {a c : Nat} (ha : a < 2147483648) (hc : c < 2147483648) (h : a ≠ c) : ¬ (zN a = zN c) := by
  rw [zN_eq ha hc]
  exact h
theorem zle' {a c : Nat} (ha : a < 2147483648) (hc : c < 2147483648) (h : a ≤ c) : zN a ≤ zN c := by
  rw [zN_le ha hc]
  exact h
theorem g_ii {α : Type} {k c : Nat} {A : Option α} (h : k < c) (hc : c ≤ 2147483648) : (if zN k < 0 ∨ c ≤ k then none else A) = A := by
  have q := g_in (A := A) h hc
  rw [zN_cl (by omega)] at q
  exact q
theorem opT_r : ∀ p ∈ opT, (p.1 < 14 ∨ (21 < p.1 ∧ p.1 < 100)) ∧ (p.1 ≠ 13 ∧ p.1 < 100) := by decide
theorem wS {N L r t i a n : Nat} {k221 : Nat → Int32 → Mem → Option (Int64 × Mem)} {mC : Mem} {sg : Int32} (hr : r < 3) (ht : t ≤ 64) (hi : i < t) (ha : a < 64) (e1 : mC.1 (L + 4) r = zN t) (e2 : mC.1 (L + 1) i = sg) : fX3_worth_21 N k221 (n + 1) L (zN r) (zN a) (zN i) mC = (if sg < (14 : Int32) then (fX3_worth_104 N (fun x0 x1 x2 x3 m => fX3_worth_21 N k221 n x0 x1 x2 x3 m) L (zN r) (zN a) (zN i) sg mC) else (if (21 : Int32) < sg then (fX3_worth_104 N (fun x0 x1 x2 x3 m => fX3_worth_21 N k221 n x0 x1 x2 x3 m) L (zN r) (zN a) (zN i) sg mC) else (if sg = (21 : Int32) then (fX3_worth_21 N k221 n L (zN r) (zN (a + 1)) (zN (i + 1)) (mJ mC (L + 6) a (mC.1 (L + 2) i).toInt64)) else (if (sg - (14 : Int32)) < 0 ∨ 7 ≤ (sg - (14 : Int32)).toNatClampNeg then none else (fX3_worth_21 N k221 n L (zN r) (zN (a + 1)) (zN (i + 1)) (mJ mC (L + 6) a (mC.2.1 (L + 5) (sg - (14 : Int32)).toNatClampNeg))))))) := by
  rw [fX3_worth_21, g_in (k := r) (by omega) (by omega), zN_cl (n := r) (by omega), e1, if_neg (zle (by omega) (by omega) hi), if_neg (show ¬ ((64 : Int32) ≤ zN i) from zle (a := 64) (by omega) (by omega) (by omega)), g_in (k := i) (by omega) (by omega), g_in (k := i) (by omega) (by omega), zN_cl (n := i) (by omega), e2, if_neg (show ¬ ((64 : Int32) ≤ zN a) from zle (a := 64) (by omega) (by omega) (by omega)), g_in (k := a) (by omega) (by omega), g_in (k := a) (by omega) (by omega), zN_cl (n := a) (by omega), zN_s, zN_s]
theorem gS {N r t i a n : Nat} {mR : Mem} {so va : Int32} (hr : r < 3) (ht : t ≤ 64) (hi : i < t) (ha : a ≤ 64) (e1 : mR.1 118 r = zN t) (e2 : mR.1 119 i = so) (e3 : mR.1 120 i = va) (e4 : mR.1 99 38 = zN a) : fX12_goes_12 N (n + 1) (zN r) (zN i) mR = (if so = (2 : Int32) then ((fX12_works va mR).bind (fun q13 => if q13.1 = 0 then (some ((0 : Int32), q13.2)) else (fX12_goes_12 N n (zN r) (zN (i + 1)) q13.2))) else (if so = 0 then (if zN a < 0 ∨ 64 ≤ (zN a).toNatClampNeg then none else fX12_goes_12 N n (zN r) (zN (i + 1)) (mI (mJ mR 122 a va.toInt64) 99 38 (zN (a + 1)))) else (if va < 0 ∨ 7 ≤ va.toNatClampNeg then none else (if zN a < 0 ∨ 64 ≤ (zN a).toNatClampNeg then none else fX12_goes_12 N n (zN r) (zN (i + 1)) (mI (mJ mR 122 a (mR.2.1 121 va.toNatClampNeg)) 99 38 (zN (a + 1))))))) := by
  rw [fX12_goes_12, g_in (k := r) (by omega) (by omega), zN_cl (n := r) (by omega), e1, if_neg (zle (by omega) (by omega) hi), g_in (k := i) (by omega) (by omega), g_in (k := i) (by omega) (by omega), g_in (k := i) (by omega) (by omega), g_in (k := i) (by omega) (by omega), g_in (k := i) (by omega) (by omega), zN_cl (n := i) (by omega), e2, e3, e4]
  unfold fX12_goes_85
  simp only [mJ_1, e4, zN_s]
  rw [zN_cl (n := a) (by omega)]
theorem ev_loop {N L r t f : Nat} {C R : Nat → Nat → Int32} (hr : r < 3) (ht : t ≤ 64) (hCt : C (L + 4) r = zN t) (hRt : R 118 r = zN t) (d : Nat → Nat) (hd1 : d t = 1) (hK : ∀ i, f ≤ i → i < t → Knot (C (L + 1) i) (C (L + 2) i) (R 119 i) (R 120 i) (d i) (d (i + 1))) : ∀ rem i nC nR mC mR, i + rem = t → rem < nC → rem < nR → d i ≤ i → f ≤ i → mC.1 = C → (∀ c k, ¬ (c = 99 ∧ k = 38) → mR.1 c k = R c k) → EV L mC mR (d i) → ∃ w g mC' mR', fX3_worth_21 N (fX3_worth_221 N) nC L (zN r) (zN (d i)) (zN i) mC = some (w, mC') ∧ fX12_goes_12 N nR (zN r) (zN i) mR = some (g, mR') ∧ mC'.1 = C ∧ mC'.2.2 = mC.2.2 ∧ (∀ c k, c ≠ L + 6 → mC'.2.1 c k = mC.2.1 c k) ∧ (∀ c k, ¬ (c = 99 ∧ k = 38) → mR'.1 c k = mR.1 c k) ∧ ((g = 0 ∧ w = lMIN) ∨ (g = 1 ∧ w = mR'.2.1 122 0 ∧ Sm w)) := by
  intro rem
  induction rem with
  | zero =>
    intro i nC nR mC mR hi hnC hnR hdi hfi hmC hmR hE
    obtain ⟨nC', rfl, _⟩ := fuel hnC
    obtain ⟨nR', rfl, _⟩ := fuel hnR
    have hi : i = t := by omega
    subst hi
    refine ⟨mC.2.1 (L + 6) 0, 1, mC, mR, ?_, ?_, hmC, rfl, fun _ _ _ => rfl, fun _ _ _ => rfl, Or.inr ⟨rfl, (hE.1 0 (by omega)).1, (hE.1 0 (by omega)).2⟩⟩
    · rw [fX3_worth_21, g_in (by omega) (by omega), zN_cl (by omega), hmC, hCt, if_pos (zle' (by omega) (by omega) (by omega)), hd1]
      exact if_pos rfl
    · rw [fX12_goes_12, g_in (by omega) (by omega), zN_cl (by omega), hmR _ _ (by omega), hRt, if_pos (zle' (by omega) (by omega) (by omega))]
  | succ rem ih =>
    intro i nC nR mC mR hi hnC hnR hdi hfi hmC hmR hE
    obtain ⟨nC', rfl, hnC⟩ := fuel hnC
    obtain ⟨nR', rfl, hnR⟩ := fuel hnR
    have h119 := hmR 119 i (by omega)
    have h120 := hmR 120 i (by omega)
    have h118 : mR.1 118 r = zN t := (hmR 118 r (by omega)).trans hRt
    have hCt' : mC.1 (L + 4) r = zN t := by rw [hmC]; exact hCt
    rw [gS hr ht (by omega) (by omega) h118 h119 h120 hE.2.2]
    have hdl : d i < 64 := by omega
    rw [wS hr ht (by omega) hdl hCt' (congrFun (congrFun hmC (L + 1)) i), hmC]
    rcases hK i hfi (by omega) with ⟨j, hj, e1, e2, e3, e4⟩ | ⟨v, hv, e1, e2, e3, e4, e5⟩ | ⟨e1, e2, e3, e4, e5⟩ | ⟨sx, va, hop, e1, e2, e3, e4, e5⟩
    · rw [e1, if_neg (show ¬ (zN _ < (14 : Int32)) from zlt (c := 14) (by omega) (by omega) (by omega)), if_neg (show ¬ ((21 : Int32) < zN _) from zlt (a := 21) (by omega) (by omega) (by omega)), if_neg (show ¬ (zN _ = (21 : Int32)) from zne (c := 21) (by omega) (by omega) (by omega)), show zN (14 + j) - (14 : Int32) = zN j from by rw [show (14 : Int32) = zN 14 from rfl, zN_sub (by omega)]; exact congrArg zN (by omega), g_in (k := j) (by omega) (by omega), zN_cl (n := j) (by omega)]
      rw [e2, if_neg (show ¬ (zN 1 = (2 : Int32)) from by decide), if_neg (show ¬ (zN 1 = (0 : Int32)) from by decide), e3, g_in (k := j) (by omega) (by omega), g_in (k := d i) (by omega) (by omega), zN_cl (n := j) (by omega), ← (hE.2.1 j hj).1]
      have q := ih (i + 1) nC' nR' (mJ mC (L + 6) (d i) (mC.2.1 (L + 5) j)) (mI (mJ mR 122 (d i) (mC.2.1 (L + 5) j)) 99 38 (zN (d i + 1))) (by omega) (by omega) (by omega) (by omega) (by omega) hmC (fun c k z => by rw [mI_n (by omega), mJ_1]; exact hmR c k z) (by rw [e4]; exact hE.push (hE.2.1 j hj).2)
      rw [e4] at q
      obtain ⟨w, g, mC', mR', q1, q2, q3, q4, q5, q6, q7⟩ := q
      refine ⟨w, g, mC', mR', q1, q2, q3, q4, fun c k z => (q5 c k z).trans (mJ_n (by omega)), fun c k z => (q6 c k z).trans (mI_n (by omega)), q7⟩
    · rw [e1, if_neg (show ¬ (zN 21 < (14 : Int32)) from by decide), if_neg (show ¬ ((21 : Int32) < zN 21) from by decide), if_pos (show zN 21 = (21 : Int32) from rfl), e2]
      rw [e3, if_neg (show ¬ (zN 0 = (2 : Int32)) from by decide), if_pos (show zN 0 = (0 : Int32) from rfl), e4, g_in (k := d i) (by omega) (by omega)]
      have q := ih (i + 1) nC' nR' (mJ mC (L + 6) (d i) (zN v).toInt64) (mI (mJ mR 122 (d i) (zN v).toInt64) 99 38 (zN (d i + 1))) (by omega) (by omega) (by omega) (by omega) (by omega) hmC (fun c k z => by rw [mI_n (by omega), mJ_1]; exact hmR c k z) (by rw [e5]; exact hE.push (Sm_i _))
      rw [e5] at q
      obtain ⟨w, g, mC', mR', q1, q2, q3, q4, q5, q6, q7⟩ := q
      refine ⟨w, g, mC', mR', q1, q2, q3, q4, fun c k z => (q5 c k z).trans (mJ_n (by omega)), fun c k z => (q6 c k z).trans (mI_n (by omega)), q7⟩
    · obtain ⟨n, hn⟩ : ∃ n, d i = n + 1 := ⟨d i - 1, by omega⟩
      rw [hn] at hE hdi
      have e6 := hE.1 n (by omega)
      have s1 : zN (n + 1) - (1 : Int32) = zN n := by
        rw [show (1 : Int32) = zN 1 from rfl, zN_sub (by omega)]
        rfl
      rw [e1, if_pos (show zN 13 < (14 : Int32) from by decide), e2, if_pos (show zN 2 = (2 : Int32) from rfl), e3, hn]
      unfold fX3_worth_104 fX12_works
      rw [if_pos (show zN 13 = (13 : Int32) from rfl), if_neg (show ¬ (zN _ < (1 : Int32)) from zlt (c := 1) (by omega) (by omega) (by omega)), s1, g_in (by omega) (by omega), g_in (by omega) (by omega), g_in (by omega) (by omega), zN_cl (by omega), zN_s, hE.2.2, s1, g_in (by omega) (by omega), if_pos (show zN 260 = (260 : Int32) from rfl), zN_cl (by omega), ← e6.1]
      simp only [lg_cmp_eq]
      have key : ∀ v : Int64, Sm v → ∃ w g mC' mR', fX3_worth_21 N (fX3_worth_221 N) nC' L (zN r) (zN (n + 1)) (zN (i + 1)) (mJ mC (L + 6) n v) = some (w, mC') ∧ fX12_goes_12 N nR' (zN r) (zN (i + 1)) (mJ mR 122 n v) = some (g, mR') ∧ mC'.1 = C ∧ mC'.2.2 = mC.2.2 ∧ (∀ c k, c ≠ L + 6 → mC'.2.1 c k = mC.2.1 c k) ∧ (∀ c k, ¬ (c = 99 ∧ k = 38) → mR'.1 c k = mR.1 c k) ∧ ((g = 0 ∧ w = lMIN) ∨ (g = 1 ∧ w = mR'.2.1 122 0 ∧ Sm w)) := by
        intro v hv
        have q := ih (i + 1) nC' nR' (mJ mC (L + 6) n v) (mJ mR 122 n v) (by omega) (by omega) (by omega) (by omega) (by omega) hmC (fun c k z => hmR c k z) (by rw [e5, hn]; exact hE.set hv)
        rw [e5, hn] at q
        obtain ⟨w, g, mC', mR', q1, q2, q3, q4, q5, q6, q7⟩ := q
        exact ⟨w, g, mC', mR', q1, q2, q3, q4, fun c k z => (q5 c k z).trans (mJ_n (by omega)), q6, q7⟩
      by_cases q : mC.2.1 (L + 6) n = 0
      · rw [if_pos q, if_pos q]
        unfold fX12_works_40 fX12_is
        rw [if_neg (show ¬ ((1 : Int32) = 0) from by decide), b_some, g_in (by omega) (by omega), zN_cl (by omega), b_some, if_neg (show ¬ ((1 : Int32) = 0) from by decide)]
        exact key 1 Sm_1
      · rw [if_neg q, if_neg q]
        unfold fX12_works_40 fX12_is
        rw [if_pos rfl, b_some, g_in (by omega) (by omega), zN_cl (by omega), b_some, if_neg (show ¬ ((1 : Int32) = 0) from by decide)]
        exact key 0 Sm_0
    · obtain ⟨n, hn⟩ : ∃ n, d i = n + 2 := ⟨d i - 2, by omega⟩
      have hn' : d (i + 1) = n + 1 := by omega
      rw [hn] at hE hdi
      have e6 := hE.1 n (by omega)
      have e7 := hE.1 (n + 1) (by omega)
      have s1 : zN (n + 2) - (1 : Int32) = zN (n + 1) := by
        rw [show (1 : Int32) = zN 1 from rfl, zN_sub (by omega)]
        rfl
      have s2 : zN (n + 2) - (2 : Int32) = zN n := by
        rw [show (2 : Int32) = zN 2 from rfl, zN_sub (by omega)]
        rfl
      have s3 : zN (n + 2) + (-1 : Int32) = zN (n + 1) := by
        rw [← Int32.sub_eq_add_neg]
        exact s1
      have s4 : zN (n + 1) - (1 : Int32) = zN n := by
        rw [show (1 : Int32) = zN 1 from rfl, zN_sub (by omega)]
        rfl
      obtain ⟨v, g, mR1, o1, o2, o3, o4⟩ := op_rel hop e6.2 e7.2 (mC := mC) (mR := mR) (b := n) (by omega) hE.2.2 e6.1.symm e7.1.symm
      have S : ∀ k21 : Nat → Int32 → Int32 → Int32 → Mem → Option (Int64 × Mem), fX3_worth_145 N k21 L (zN r) (zN (n + 2)) (zN i) (zN sx) mC = (if 1000000000000 < v then some (lMIN, mC) else if (-1000000000000 : Int64) ≤ v then k21 L (zN r) (zN (n + 1)) (zN (i + 1)) (mJ mC (L + 6) n v) else some (lMIN, mC)) := by
        intro k21
        unfold fX3_worth_145
        rw [if_neg (show ¬ (zN _ < (2 : Int32)) from zlt (c := 2) (by omega) (by omega) (by omega)), s1, s2, s3, s4, g_in (by omega) (by omega), g_in (by omega) (by omega), zN_cl (by omega), zN_cl (by omega), o1, b_some, g_ii (k := n) (by omega) (by omega), zN_s]
        simp only [lg_cmp_gt, lg_cmp_ge]
      have T : ∀ A B : Option (Int64 × Mem), (if zN sx < (14 : Int32) then A else if (21 : Int32) < zN sx then A else B) = A := by
        intro A B
        have hx : sx < 14 ∨ (21 < sx ∧ sx < 100) := (opT_r _ hop).1
        by_cases z : sx < 14
        · rw [if_pos]
          rw [show (14 : Int32) = zN 14 from rfl, zN_lt (by omega) (by omega)]
          exact z
        · by_cases z2 : zN sx < (14 : Int32)
          · rw [if_pos z2]
          · rw [if_neg z2, if_pos]
            rw [show (21 : Int32) = zN 21 from rfl, zN_lt (by omega) (by omega)]
            omega
      have U : ∀ k21 : Nat → Int32 → Int32 → Int32 → Mem → Option (Int64 × Mem), fX3_worth_104 N k21 L (zN r) (zN (n + 2)) (zN i) (zN sx) mC = fX3_worth_145 N k21 L (zN r) (zN (n + 2)) (zN i) (zN sx) mC := by
        intro k21
        unfold fX3_worth_104
        rw [if_neg]
        have hx : sx ≠ 13 ∧ sx < 100 := (opT_r _ hop).2
        exact zne (c := 13) (by omega) (by omega) hx.1
      rw [e1, hn, T, U, S, e2, if_pos (show zN 2 = (2 : Int32) from rfl), e3, o2, b_some]
      rcases o4 with ⟨z1, z2, z3⟩ | ⟨z1, z2⟩
      · have nb : ¬ ((1000000000000 : Int64) < v ∨ v < (-1000000000000 : Int64)) := fun z => Sm_gt.mp z z2
        rw [z1, if_neg (show ¬ ((1 : Int32) = 0) from by decide), if_neg (fun z => nb (Or.inl z)), if_pos (Int64.not_lt.mp (fun z => nb (Or.inr z))), z3]
        have q := ih (i + 1) nC' nR' (mJ mC (L + 6) n v) (mJ (mI mR 99 38 (zN (n + 1))) 122 n v) (by omega) (by omega) (by omega) (by omega) (by omega) hmC (fun c k z => by rw [mJ_1, mI_n (by omega)]; exact hmR c k z) (by rw [hn']; exact hE.pop z2)
        rw [hn'] at q
        obtain ⟨w, g, mC', mR', q1, q2, q3, q4, q5, q6, q7⟩ := q
        exact ⟨w, g, mC', mR', q1, q2, q3, q4, fun c k z => (q5 c k z).trans (mJ_n (by omega)), fun c k z => (q6 c k z).trans (by rw [mJ_1, mI_n (by omega)]), q7⟩
      · refine ⟨lMIN, 0, mC, mR1, ?_, ?_, hmC, rfl, fun _ _ _ => rfl, o3, Or.inl ⟨rfl, rfl⟩⟩
        · rcases Sm_gt.mpr z2 with q | q
          · rw [if_pos q]
          · by_cases q2 : 1000000000000 < v
            · rw [if_pos q2]
            · rw [if_neg q2, if_neg (Int64.not_le.mpr q)]
        · rw [z1, if_pos rfl]
