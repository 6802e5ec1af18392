/-! undo -/
theorem unl_loop {Z : Nat → Nat} {N : Nat} {m0 : Mem} {x2 : Int32} {k55 : Nat → Int32 → Mem → Option (Int32 × Mem)} : ∀ rem k n m mv, k + rem = 6 → rem < n → BathR Z 43 0 m mv → (∀ j, j < k → m.1 48 j = -2) → (∀ c j, c ≠ 46 → c ≠ 48 → c ≠ 51 → m.1 c j = m0.1 c j) → m.2 = m0.2 → ∃ M, fX7_restore_38 N k55 n 43 x2 (zN k) m = k55 43 x2 M ∧ (∀ j, j < 6 → M.1 48 j = -2) ∧ (∀ t, t < 6 → M.1 46 t = -2) ∧ (∀ c j, c ≠ 46 → c ≠ 48 → c ≠ 51 → M.1 c j = m0.1 c j) ∧ M.2 = m0.2 := by
  intro rem
  induction rem with
  | zero =>
    intro k n m mv hk hn hB h1 h2 h3
    obtain ⟨n', rfl, _⟩ := fuel hn
    rw [fX7_restore_38, if_pos (show (6 : Int32) ≤ zN k from zle' (a := 6) (by omega) (by omega) (by omega))]
    refine ⟨m, rfl, fun j hj => h1 j (by omega), fun t ht => ?_, h2, h3⟩
    have hz := hB.zz
    rcases hB.ho t ht with q | ⟨j, q1, q2, q3⟩
    · exact q
    · have q4 := h1 j (by omega)
      have q3 : m.1 48 j = zN t := q3
      rw [q3, zN_m2 (by omega)] at q4
      exact q4.elim
  | succ rem ih =>
    intro k n m mv hk hn hB h1 h2 h3
    obtain ⟨n', rfl, hn⟩ := fuel hn
    obtain ⟨m1, l1, l2, l3, l4, l5, l6, l7, l8⟩ := leave_rel (o := 7) hB (show k < 6 by omega)
    rw [fX7_restore_38, if_neg (show ¬ ((6 : Int32) ≤ zN k) from zle (a := 6) (by omega) (by omega) (by omega)), l1, b_some, zN_s]
    refine ih (k + 1) n' m1 _ (by omega) (by omega) l3 (fun j hj => ?_) (fun c j a b e => ?_) (l8.trans h3)
    · by_cases e : j = k
      · rw [e]
        exact l5
      · rw [l7 48 j (by omega) (by omega) (by omega)]
        exact h1 j (by omega)
    · rw [l7 c j (by omega) (by omega) (by omega), h2 c j a b e]
def UnQ (i k : Nat) (m0 m : Mem) : Prop := (∀ c j, c ≠ 46 → c ≠ 48 → c ≠ 51 → m.1 c j = m0.1 c j) ∧ (m.2 = m0.2) ∧ (∀ j, k ≤ j → j < 6 → m.1 48 j = -2) ∧ (∀ j, j < k → m.1 48 j = m0.1 75 (24 * i + 12 + j) ∧ m.1 51 j = m0.1 75 (24 * i + 18 + j)) ∧ (∀ t, t < 6 → m.1 46 t = -2 ∨ ∃ j, j < k ∧ m.1 46 t = zN j ∧ m0.1 75 (24 * i + 12 + j) = zN t) ∧ (∀ j t, j < k → t < 6 → m0.1 75 (24 * i + 12 + j) = zN t → m.1 46 t = zN j)
theorem UnQ.fr {i k : Nat} {m0 m : Mem} (h : UnQ i k m0 m) : ∀ c j, c ≠ 46 → c ≠ 48 → c ≠ 51 → m.1 c j = m0.1 c j := h.1
theorem UnQ.f2 {i k : Nat} {m0 m : Mem} (h : UnQ i k m0 m) : m.2 = m0.2 := h.2.1
theorem UnQ.hi {i k : Nat} {m0 m : Mem} (h : UnQ i k m0 m) : ∀ j, k ≤ j → j < 6 → m.1 48 j = -2 := h.2.2.1
theorem UnQ.lo {i k : Nat} {m0 m : Mem} (h : UnQ i k m0 m) : ∀ j, j < k → m.1 48 j = m0.1 75 (24 * i + 12 + j) ∧ m.1 51 j = m0.1 75 (24 * i + 18 + j) := h.2.2.2.1
theorem UnQ.ho {i k : Nat} {m0 m : Mem} (h : UnQ i k m0 m) : ∀ t, t < 6 → m.1 46 t = -2 ∨ ∃ j, j < k ∧ m.1 46 t = zN j ∧ m0.1 75 (24 * i + 12 + j) = zN t := h.2.2.2.2.1
theorem UnQ.hj {i k : Nat} {m0 m : Mem} (h : UnQ i k m0 m) : ∀ j t, j < k → t < 6 → m0.1 75 (24 * i + 12 + j) = zN t → m.1 46 t = zN j := h.2.2.2.2.2
theorem unr_loop {Z : Nat → Nat} {N i : Nat} {m0 mR : Mem} (hz : Z 0 ≤ 6 ∧ Z 1 ≤ 6) (hi : i < 20) (S : SavR Z i m0 mR) : ∀ rem k n m, k + rem = 6 → rem < n → UnQ i k m0 m → ∃ M, fX7_restore_90 N n 43 (zN (24 * i)) (zN k) m = some (1, M) ∧ UnQ i 6 m0 M := by
  intro rem
  induction rem with
  | zero =>
    intro k n m hk hn Q
    obtain ⟨n', rfl, _⟩ := fuel hn
    rw [fX7_restore_90, if_pos (show (6 : Int32) ≤ zN k from zle' (a := 6) (by omega) (by omega) (by omega))]
    rw [show k = 6 from by omega] at Q
    exact ⟨m, rfl, Q⟩
  | succ rem ih =>
    intro k n m hk hn Q
    obtain ⟨n', rfl, hn⟩ := fuel hn
    have e12 : zN (24 * i) + (12 : Int32) = zN (24 * i + 12) := zN_add _ 12
    have e6 : zN (24 * i + 12) + (6 : Int32) = zN (24 * i + 18) := zN_add _ 6
    rw [fX7_restore_90, if_neg (show ¬ ((6 : Int32) ≤ zN k) from zle (a := 6) (by omega) (by omega) (by omega)), e12, e6, zN_add, zN_add, g_in (by omega) (by omega), zN_cl (n := 24 * i + 12 + k) (by omega), zN_cl (n := 24 * i + 18 + k) (by omega), Q.fr 75 _ (by omega) (by omega) (by omega), zN_s]
    rcases S.pl k (by omega) with ⟨p1, p2⟩ | ⟨pk, t, t1, p1, p2⟩
    · have E : fX0_enter 43 (zN k) (-2 : Int32) m = some (0, m) := by
        unfold fX0_enter
        rw [isKnight_1 (by omega), b_some, if_neg z10, isTub_m2, b_some, if_pos rfl]
      rw [p1, E, b_some, g_ii (by omega) (by omega), g_in (by omega) (by omega), zN_cl (by omega), Q.fr 75 _ (by omega) (by omega) (by omega)]
      refine ih (k + 1) n' _ (by omega) (by omega) ⟨fun c j a b e => ?_, Q.f2, fun j a b => ?_, fun j a => ⟨?_, ?_⟩, fun t ht => ?_, fun j t a b e => ?_⟩
      · rw [mI_n (by omega)]
        exact Q.fr c j a b e
      · rw [mI_n (by omega)]
        exact Q.hi j (by omega) b
      · rw [mI_n (by omega)]
        by_cases w : j = k
        · rw [w, Q.hi k (by omega) (by omega), p1]
        · exact (Q.lo j (by omega)).1
      · by_cases w : j = k
        · rw [w, mI_s ⟨rfl, rfl⟩]
        · rw [mI_n (by omega)]
          exact (Q.lo j (by omega)).2
      · rw [mI_n (by omega)]
        rcases Q.ho t ht with q | ⟨j, q1, q2, q3⟩
        · exact Or.inl q
        · exact Or.inr ⟨j, by omega, q2, q3⟩
      · rw [mI_n (by omega)]
        by_cases w : j = k
        · rw [w, p1] at e
          have e := e.symm
          rw [zN_m2 (by omega)] at e
          exact e.elim
        · exact Q.hj j t (by omega) b e
    · have F : m.1 46 t = -2 := by
        rcases Q.ho t (by omega) with q | ⟨j, q1, q2, q3⟩
        · exact q
        · rcases S.pl j (by omega) with ⟨r1, r2⟩ | ⟨_, t', r0, r1, r2⟩
          · rw [q3] at r1
            rw [zN_m2 (by omega)] at r1
            exact r1.elim
          · rw [q3, zN_eq (by omega) (by omega)] at r1
            rw [← r1] at r2
            have := S.ij k j t (by omega) (by omega) (by omega) p2 r2
            omega
      have L : fX0_leave 43 (zN k) m = some (mI (mI m 48 k (-2)) 51 k 0) := by
        unfold fX0_leave
        rw [isKnight_1 (by omega), b_some, if_neg z10, g_in (by omega) (by omega), zN_cl (by omega), show m.1 (43 + 5) k = -2 from Q.hi k (by omega) (by omega), isTub_m2, b_some, if_pos rfl]
        unfold fX0_leave_30
        rw [g_in (by omega) (by omega), g_in (by omega) (by omega), zN_cl (by omega)]
      have E : fX0_enter 43 (zN k) (zN t) m = some (1, mI (mI (mI (mI m 48 k (-2)) 51 k 0) 46 t (zN k)) 48 k (zN t)) := by
        unfold fX0_enter
        rw [isKnight_1 (by omega), b_some, if_neg z10, isTub_1 (by omega), b_some, if_neg z10, g_in (by omega) (by omega), zN_cl (by omega), show m.1 (43 + 3) t = -2 from F, if_pos (by decide), L, b_some, g_ii (by omega) (by omega), g_in (by omega) (by omega), zN_cl (by omega)]
      rw [p1, E, b_some, g_ii (by omega) (by omega), g_in (by omega) (by omega), zN_cl (by omega)]
      have e75 : (mI (mI (mI (mI m 48 k (-2)) 51 k 0) 46 t (zN k)) 48 k (zN t)).1 75 (24 * i + 18 + k) = m0.1 75 (24 * i + 18 + k) := by
        rw [mI_n (by omega), mI_n (by omega), mI_n (by omega), mI_n (by omega), Q.fr 75 _ (by omega) (by omega) (by omega)]
      dsimp only
      rw [e75]
      refine ih (k + 1) n' _ (by omega) (by omega) ⟨fun c j a b e => ?_, Q.f2, fun j a b => ?_, fun j a => ⟨?_, ?_⟩, fun t' ht => ?_, fun j t' a b e => ?_⟩
      · rw [mI_n (by omega), mI_n (by omega), mI_n (by omega), mI_n (by omega), mI_n (by omega)]
        exact Q.fr c j a b e
      · rw [mI_n (by omega), mI_n (by omega), mI_n (by omega), mI_n (by omega), mI_n (by omega)]
        exact Q.hi j (by omega) b
      · rw [mI_n (by omega)]
        by_cases w : j = k
        · rw [w, mI_s ⟨rfl, rfl⟩, p1]
        · rw [mI_n (by omega), mI_n (by omega), mI_n (by omega), mI_n (by omega)]
          exact (Q.lo j (by omega)).1
      · by_cases w : j = k
        · rw [w, mI_s ⟨rfl, rfl⟩]
        · rw [mI_n (by omega), mI_n (by omega), mI_n (by omega), mI_n (by omega), mI_n (by omega)]
          exact (Q.lo j (by omega)).2
      · rw [mI_n (by omega), mI_n (by omega)]
        by_cases w : t' = t
        · rw [w, mI_s ⟨rfl, rfl⟩]
          exact Or.inr ⟨k, by omega, rfl, p1⟩
        · rw [mI_n (by omega), mI_n (by omega), mI_n (by omega)]
          rcases Q.ho t' ht with q | ⟨j, q1, q2, q3⟩
          · exact Or.inl q
          · exact Or.inr ⟨j, by omega, q2, q3⟩
      · rw [mI_n (by omega), mI_n (by omega)]
        by_cases w : j = k
        · rw [w, p1, zN_eq (by omega) (by omega)] at e
          rw [w, e, mI_s ⟨rfl, rfl⟩]
        · have q := Q.hj j t' (by omega) b e
          by_cases y : t' = t
          · rw [y, F] at q
            have q := q.symm
            rw [zN_m2 (by omega)] at q
            exact q.elim
          · rw [mI_n (by omega), mI_n (by omega), mI_n (by omega)]
            exact q
theorem gun {α : Type} {v : Nat} {A : Option α} (h : v + 6 ≤ 480) : (if zN v < 0 ∨ (0 : Int32) < 0 ∨ (6 : Int32) < 0 ∨ 480 < (zN v).toNatClampNeg + (6 : Int32).toNatClampNeg ∨ 6 < (0 : Int32).toNatClampNeg + (6 : Int32).toNatClampNeg then none else A) = A := by
  rw [if_neg]
  rw [zN_neg (by omega), zN_cl (by omega)]
  have a1 : ¬ ((0 : Int32) < 0) := by decide
  have a2 : ¬ ((6 : Int32) < 0) := by decide
  have a3 : (0 : Int32).toNatClampNeg = 0 := rfl
  have a4 : (6 : Int32).toNatClampNeg = 6 := rfl
  rw [a3, a4]
  simp only [a1, a2, false_or]
  omega
theorem undo_ok {Z : Nat → Nat} {N i : Nat} {mc mR : Mem} (hN : 100 ≤ N) (hi : i < 20) (hB : BathR Z 43 0 mc mR) (hP : PastR Z (i + 1) mc mR) : ∃ M M', fX7_restore N 43 mc = some (1, M) ∧ fX12_copies N (0 : Int32) (zN (3 + i)) (mI mR 99 51 (zN i)) = some M' ∧ BathR Z 43 0 M M' ∧ PastR Z i M M' ∧ (∀ c k, c < 43 ∨ 52 < c → ¬ (c = 74 ∧ k = 1) → M.1 c k = mc.1 c k) ∧ M.2 = mc.2 ∧ Cpy 0 (3 + i) (mI mR 99 51 (zN i)) M' := by
  have hz := hB.zz
  obtain ⟨M', b1, b2⟩ := copies_ok (N := N) (a := 0) (b := 3 + i) (m := mI mR 99 51 (zN i)) hN (by omega) (by omega) (by omega)
  have hB1 : BathR Z 43 0 (mI mc 74 1 (zN i)) mR := hB.cong (fun c k _ _ => mI_n (by omega)) rfl (fun _ _ _ => rfl) (fun _ _ _ _ _ => rfl)
  obtain ⟨m1, u1, u2, u3, u4, u5⟩ := unl_loop (Z := Z) (N := N) (m0 := mI mc 74 1 (zN i)) (x2 := zN (24 * i)) (k55 := fX7_restore_55 N) 6 0 N (mI mc 74 1 (zN i)) mR (by omega) (by omega) hB1 (fun j hj => absurd hj (by omega)) (fun _ _ _ _ _ => rfl) rfl
  have S := hP.sv i (by omega)
  have S1 : SavR Z i (mC (mC m1 75 (24 * i) 44 0 6) 75 (24 * i + 6) 45 0 6) mR := by
    refine S.cong hz (fun k hk => ?_) (fun _ _ _ _ _ => rfl) (fun _ _ _ _ => rfl) (fun _ _ _ => ⟨rfl, rfl⟩)
    rw [mC_at, if_neg (by omega), mC_at, if_neg (by omega), u4 _ _ (by omega) (by omega) (by omega), mI_n (by omega)]
  obtain ⟨M, v1, Q⟩ := unr_loop (N := N) hz hi S1 6 0 N (mC (mC m1 75 (24 * i) 44 0 6) 75 (24 * i + 6) 45 0 6) (by omega) (by omega) ⟨fun _ _ _ _ _ => rfl, rfl, fun j _ hj => by rw [mC_at, if_neg (by omega), mC_at, if_neg (by omega)]; exact u2 j hj, fun j hj => absurd hj (by omega), fun t ht => by rw [mC_at, if_neg (by omega), mC_at, if_neg (by omega)]; exact Or.inl (u3 t ht), fun j t hj => absurd hj (by omega)⟩
  have F : ∀ c k, c ≠ 44 → c ≠ 45 → c ≠ 46 → c ≠ 48 → c ≠ 51 → ¬ (c = 74 ∧ k = 1) → M.1 c k = mc.1 c k := by
    intro c k q1 q2 q3 q4 q5 q6
    rw [Q.fr c k q3 q4 q5, mC_at, if_neg (by omega), mC_at, if_neg (by omega), u4 c k q3 q4 q5, mI_n (by omega)]
  have F75 : ∀ k, (mC (mC m1 75 (24 * i) 44 0 6) 75 (24 * i + 6) 45 0 6).1 75 k = mc.1 75 k := by
    intro k
    rw [mC_at, if_neg (by omega), mC_at, if_neg (by omega), u4 _ _ (by omega) (by omega) (by omega), mI_n (by omega)]
  have F2 : M.2 = mc.2 := by
    rw [Q.f2, mC_2, mC_2, u5, mI_2]
  have G : ∀ c k, 126 ≤ c → c ≤ 133 → k < 6 → M'.1 c (6 * 0 + k) = mR.1 c (6 * (3 + i) + k) := by
    intro c k q1 q2 q3
    rw [b2.q q1 q2 q3, mI_n (by omega)]
  have G1 : ∀ c, 123 ≤ c → c ≤ 125 → M'.1 c 0 = mR.1 c 0 := by
    intro c q1 q2
    rw [b2.a q1 q2, mI_n (by omega), S.mn c q1 q2]
  have G2 : ∀ c k, k < 6 → (c = 128 ∨ c = 131 ∨ c = 132 ∨ c = 133) → M'.1 c (6 * 0 + k) = mR.1 c (6 * 0 + k) := by
    intro c k q1 q2
    rw [G c k (by omega) (by omega) q1, S.ot c k q1 q2, Nat.mul_zero, Nat.zero_add]
  refine ⟨M, M', ?_, b1, ?_, ?_, fun c k p1 p2 => F c k (by omega) (by omega) (by omega) (by omega) (by omega) p2, F2, b2⟩
  · unfold fX7_restore
    rw [hP.uc, if_neg (show ¬ (zN (i + 1) ≤ 0) from zle (c := 0) (by omega) (by omega) (by omega)), if_pos (show zN (i + 1) ≤ (20 : Int32) from zle' (c := 20) (by omega) (by omega) (by omega)), show zN (i + 1) - (1 : Int32) = zN i from by rw [show (1 : Int32) = zN 1 from rfl, zN_sub (by omega), Nat.add_sub_cancel], mI_s ⟨rfl, rfl⟩, show zN i * (24 : Int32) = zN (24 * i) from by rw [show (24 : Int32) = zN 24 from rfl, zN_mul, Nat.mul_comm]]
    rw [show fX7_restore_38 N (fX7_restore_55 N) N 43 (zN (24 * i)) (0 : Int32) (mI mc 74 1 (zN i)) = _ from u1]
    unfold fX7_restore_55
    rw [gun (by omega), show zN (24 * i) + (6 : Int32) = zN (24 * i + 6) from zN_add _ 6, gun (by omega), zN_cl (by omega), zN_cl (by omega)]
    exact v1
  · have hpl : ∀ k, k < 6 → M.1 48 k = mc.1 75 (24 * i + 12 + k) := fun k hk => by rw [(Q.lo k hk).1, F75]
    refine ⟨by omega, by omega, hz, fun j k hj hk => ?_, fun k hk => ?_, fun k hk => ?_, fun k hk => ?_, fun k hk => ?_, fun t ht => ?_, ?_, ?_, ?_⟩
    · have hj : j = 0 ∨ j = 1 ∨ j = 2 ∨ j = 3 ∨ j = 4 ∨ j = 5 ∨ j = 6 := by omega
      rcases hj with rfl | rfl | rfl | rfl | rfl | rfl | rfl
      · show M.1 44 k = M'.1 126 (6 * 0 + k)
        rw [G _ _ (by omega) (by omega) hk, ← S.e0 k hk, Q.fr 44 k (by omega) (by omega) (by omega), mC_at, if_neg (by omega), mC_at, if_pos (by omega), u4 _ _ (by omega) (by omega) (by omega), mI_n (by omega), Nat.sub_zero]
      · show M.1 45 k = M'.1 127 (6 * 0 + k)
        rw [G _ _ (by omega) (by omega) hk, ← S.e1 k hk, Q.fr 45 k (by omega) (by omega) (by omega), mC_at, if_pos (by omega), mC_at, if_neg (by omega), u4 _ _ (by omega) (by omega) (by omega), mI_n (by omega), Nat.sub_zero]
      · show M.1 47 k = M'.1 128 (6 * 0 + k)
        rw [G2 _ _ hk (by omega), F _ _ (by omega) (by omega) (by omega) (by omega) (by omega) (by omega)]
        exact hB.eq 2 k (by omega) hk
      · show M.1 51 k = M'.1 130 (6 * 0 + k)
        rw [G _ _ (by omega) (by omega) hk, ← S.e3 k hk, (Q.lo k hk).2, F75]
      · show M.1 49 k = M'.1 131 (6 * 0 + k)
        rw [G2 _ _ hk (by omega), F _ _ (by omega) (by omega) (by omega) (by omega) (by omega) (by omega)]
        exact hB.eq 4 k (by omega) hk
      · show M.1 50 k = M'.1 132 (6 * 0 + k)
        rw [G2 _ _ hk (by omega), F _ _ (by omega) (by omega) (by omega) (by omega) (by omega) (by omega)]
        exact hB.eq 5 k (by omega) hk
      · show M.1 52 k = M'.1 133 (6 * 0 + k)
        rw [G2 _ _ hk (by omega), F _ _ (by omega) (by omega) (by omega) (by omega) (by omega) (by omega)]
        exact hB.eq 6 k (by omega) hk
    · rw [G _ _ (by omega) (by omega) (by omega)]
      exact S.li k hk
    · rw [G _ _ (by omega) (by omega) (by omega)]
      exact S.he k hk
    · rw [G2 _ _ (by omega) (by omega)]
      exact hB.be k hk
    · rw [G _ _ (by omega) (by omega) hk, show M.1 (43 + 5) k = M.1 48 k from rfl, hpl k hk]
      rcases S.pl k hk with q | ⟨q, t, q1, q2, q3⟩
      · exact Or.inl q
      · exact Or.inr ⟨q, t, q1, q2, q3, Q.hj k t hk (by omega) (by rw [F75]; exact q2)⟩
    · rcases Q.ho t ht with q | ⟨k, q1, q2, q3⟩
      · exact Or.inl q
      · rw [F75] at q3
        refine Or.inr ⟨k, ?_, q2, by rw [show M.1 (43 + 5) k = M.1 48 k from rfl, hpl k q1]; exact q3⟩
        rcases S.pl k q1 with ⟨w, _⟩ | ⟨w, _⟩
        · rw [q3, zN_m2 (by omega)] at w
          exact w.elim
        · exact w
    · rw [G1 _ (by omega) (by omega), F _ _ (by omega) (by omega) (by omega) (by omega) (by omega) (by omega)]
      exact hB.mi
    · rw [G1 _ (by omega) (by omega), F _ _ (by omega) (by omega) (by omega) (by omega) (by omega) (by omega)]
      exact hB.so
    · rw [G1 _ (by omega) (by omega), F2]
      exact hB.nu
  · refine ⟨by omega, ?_, ?_, fun j hj => ?_⟩
    · rw [Q.fr _ _ (by omega) (by omega) (by omega), mC_at, if_neg (by omega), mC_at, if_neg (by omega), u4 _ _ (by omega) (by omega) (by omega), mI_s ⟨rfl, rfl⟩]
    · rw [b2.n (by omega) (by omega), mI_s ⟨rfl, rfl⟩]
    · refine (hP.sv j (by omega)).cong hz (fun k hk => ?_) (fun c k hk a b => ?_) (fun c k hk hc => ?_) (fun c a b => ⟨G1 c a b, ?_⟩)
      · exact F _ _ (by omega) (by omega) (by omega) (by omega) (by omega) (by omega)
      · rw [b2.n (by omega) (by omega), mI_n (by omega)]
      · have := G2 c k hk hc
        rw [Nat.mul_zero, Nat.zero_add] at this
        exact this
      · rw [b2.n (by omega) (by omega), mI_n (by omega)]
theorem op33 {N : Nat} (hN : 100 ≤ N) : OP33 Inv N := by
  intro mC mR ⟨Z, o, nt, nu, nf, h⟩
  have h := h.th 0
  have hub := h.ps.ub
  unfold fX11_undo fX12_undo
  generalize mI mR 99 0 (0 : Int32) = R at h ⊢
  rw [h.ps.ur]
  rcases Nat.eq_zero_or_pos nu with e | e
  · rw [if_pos (show zN nu = 0 from by rw [e]; rfl)]
    unfold fX7_restore
    rw [h.ps.uc, if_pos (show zN nu ≤ 0 from by rw [e]; decide), b_some, if_pos rfl]
    exact ⟨-1, _, _, rfl, rfl, h.i⟩
  · obtain ⟨i, rfl⟩ : ∃ i, nu = i + 1 := ⟨nu - 1, by omega⟩
    obtain ⟨M, M', a1, a2, a3, a4, a5, a6, a7⟩ := undo_ok hN (by omega) h.nw h.ps
    rw [if_neg (show ¬ (zN (i + 1) = 0) from zne (c := 0) (by omega) (by omega) (by omega)), show zN (i + 1) - (1 : Int32) = zN i from by rw [show (1 : Int32) = zN 1 from rfl, zN_sub (by omega), Nat.add_sub_cancel], mI_s ⟨rfl, rfl⟩, show (3 : Int32) + zN i = zN (3 + i) from zN_add 3 i, a1, a2, b_some, b_some, if_neg z10, show M.1 74 1 = zN i from a4.uc, a4.ur]
    refine ⟨_, _, _, rfl, rfl, (h.now a3 a4 ⟨fun c k q => a5 c k (by omega) (by omega), by rw [a6], by rw [a6]⟩ (fun c k p1 p2 p3 p4 p5 p6 p7 => ?_)).i⟩
    rw [a7.n (by omega) (by omega), mI_n (by omega)]
