/-! doings by call: what was ahead is saved -/
theorem SavR.mv {Z : Nat → Nat} {i i' : Nat} {mC mR mC' mR' : Mem} (hz : Z 0 ≤ 6 ∧ Z 1 ≤ 6) (h : SavR Z i mC mR) (h1 : ∀ k, k < 24 → mC'.1 75 (24 * i' + k) = mC.1 75 (24 * i + k)) (h2 : ∀ c k, k < 6 → 126 ≤ c → c ≤ 133 → mR'.1 c (6 * (3 + i') + k) = mR.1 c (6 * (3 + i) + k)) (h3 : ∀ c k, k < 6 → (c = 128 ∨ c = 131 ∨ c = 132 ∨ c = 133) → mR'.1 c k = mR.1 c k) (h4 : ∀ c, 123 ≤ c → c ≤ 125 → mR'.1 c 0 = mR.1 c 0 ∧ mR'.1 c (3 + i') = mR.1 c (3 + i)) : SavR Z i' mC' mR' := by
  have g1 : ∀ d k, d + k < 24 → mC'.1 75 (24 * i' + d + k) = mC.1 75 (24 * i + d + k) := fun d k q => by rw [Nat.add_assoc, Nat.add_assoc]; exact h1 (d + k) q
  refine ⟨fun k hk => ?_, fun k hk => ?_, fun k hk => ?_, fun k hk => ?_, fun k hk => ?_, fun k hk => ?_, fun k k' t hk hk' ht => ?_, fun c k hk hc => ?_, fun c a b => ?_⟩
  · rw [h1 k (by omega), h2 _ _ hk (by omega) (by omega)]
    exact h.e0 k hk
  · rw [g1 6 k (by omega), h2 _ _ hk (by omega) (by omega)]
    exact h.e1 k hk
  · rw [g1 18 k (by omega), h2 _ _ hk (by omega) (by omega)]
    exact h.e3 k hk
  · rw [h2 _ _ (by omega) (by omega) (by omega)]
    exact h.li k hk
  · rw [h2 _ _ (by omega) (by omega) (by omega)]
    exact h.he k hk
  · rw [g1 12 k (by omega), h2 _ _ hk (by omega) (by omega)]
    exact h.pl k hk
  · rw [h2 _ _ hk (by omega) (by omega), h2 _ _ hk' (by omega) (by omega)]
    exact h.ij k k' t hk hk' ht
  · rw [h2 _ _ hk (by omega) (by omega), h3 _ _ hk hc]
    exact h.ot c k hk hc
  · rw [(h4 c a b).1, (h4 c a b).2]
    exact h.mn c a b
def svC (u : Nat) (m : Mem) : Mem := mI (mC (mC (mC (mC m 44 0 75 (24 * u) 6) 45 0 75 (24 * u + 6) 6) 48 0 75 (24 * u + 12) 6) 51 0 75 (24 * u + 18) 6) 74 1 (zN (u + 1))
theorem gsv {α : Type} {v : Nat} {A : Option α} (h : v + 6 ≤ 480) : (if (0 : Int32) < 0 ∨ zN v < 0 ∨ (6 : Int32) < 0 ∨ 6 < (0 : Int32).toNatClampNeg + (6 : Int32).toNatClampNeg ∨ 480 < (zN v).toNatClampNeg + (6 : Int32).toNatClampNeg then none else A) = A := by
  rw [if_neg]
  rw [zN_neg (by omega), zN_cl (by omega)]
  have a1 : ¬ ((0 : Int32) < 0) := by decide
  have a2 : ¬ ((6 : Int32) < 0) := by decide
  have a3 : (0 : Int32).toNatClampNeg = 0 := rfl
  have a4 : (6 : Int32).toNatClampNeg = 6 := rfl
  rw [a3, a4]
  simp only [a1, a2, false_or]
  omega
theorem save32 {u : Nat} {m : Mem} (hu : u ≤ 19) (e : m.1 74 1 = zN u) : fX7_save_32 43 m = some (svC u m) := by
  unfold fX7_save_32
  rw [e, show (24 : Int32) = zN 24 from rfl, show (12 : Int32) = zN 12 from rfl, zN_mul, zN_add]
  have z6 : ∀ a, zN a + (6 : Int32) = zN (a + 6) := fun a => zN_add a 6
  rw [z6, z6, gsv (by omega), gsv (by omega), gsv (by omega), gsv (by omega), zN_cl (by omega), zN_cl (by omega), zN_cl (by omega), zN_cl (by omega), show (0 : Int32).toNatClampNeg = 0 from rfl, show (6 : Int32).toNatClampNeg = 6 from rfl]
  have e2 : (mC (mC (mC (mC m (43 + 1) 0 75 (u * 24) 6) (43 + 2) 0 75 (u * 24 + 6) 6) (43 + 5) 0 75 (u * 24 + 12) 6) (43 + 8) 0 75 (u * 24 + 12 + 6) 6).1 74 1 = zN u := by
    rw [mC_at, if_neg (by omega), mC_at, if_neg (by omega), mC_at, if_neg (by omega), mC_at, if_neg (by omega)]
    exact e
  rw [e2, zN_s]
  unfold svC
  rw [Nat.mul_comm u 24]
def SvR (u : Nat) (m M : Mem) : Prop := ∀ c j, M.1 c j = if c = 75 ∧ 24 * u ≤ j ∧ j < 24 * u + 6 then m.1 44 (j - 24 * u) else if c = 75 ∧ 24 * u + 6 ≤ j ∧ j < 24 * u + 12 then m.1 45 (j - (24 * u + 6)) else if c = 75 ∧ 24 * u + 12 ≤ j ∧ j < 24 * u + 18 then m.1 48 (j - (24 * u + 12)) else if c = 75 ∧ 24 * u + 18 ≤ j ∧ j < 24 * u + 24 then m.1 51 (j - (24 * u + 18)) else if c = 74 ∧ j = 1 then zN (u + 1) else m.1 c j
theorem svC_at (u : Nat) (m : Mem) : SvR u m (svC u m) := by
  intro c j
  unfold svC
  by_cases p1 : c = 75 ∧ 24 * u ≤ j ∧ j < 24 * u + 6
  · rw [if_pos p1, mI_at, if_neg (by omega), mC_at, if_neg (by omega), mC_at, if_neg (by omega), mC_at, if_neg (by omega), mC_at, if_pos (by omega), Nat.zero_add]
  · rw [if_neg p1]
    by_cases p2 : c = 75 ∧ 24 * u + 6 ≤ j ∧ j < 24 * u + 12
    · rw [if_pos p2, mI_at, if_neg (by omega), mC_at, if_neg (by omega), mC_at, if_neg (by omega), mC_at, if_pos (by omega), mC_at, if_neg (by omega), Nat.zero_add]
    · rw [if_neg p2]
      by_cases p3 : c = 75 ∧ 24 * u + 12 ≤ j ∧ j < 24 * u + 18
      · rw [if_pos p3, mI_at, if_neg (by omega), mC_at, if_neg (by omega), mC_at, if_pos (by omega), mC_at, if_neg (by omega), mC_at, if_neg (by omega), Nat.zero_add]
      · rw [if_neg p3]
        by_cases p4 : c = 75 ∧ 24 * u + 18 ≤ j ∧ j < 24 * u + 24
        · rw [if_pos p4, mI_at, if_neg (by omega), mC_at, if_pos (by omega), mC_at, if_neg (by omega), mC_at, if_neg (by omega), mC_at, if_neg (by omega), Nat.zero_add]
        · rw [if_neg p4]
          by_cases p5 : c = 74 ∧ j = 1
          · rw [if_pos p5, mI_at, if_pos p5]
          · rw [if_neg p5, mI_at, if_neg (by omega), mC_at, if_neg (by omega), mC_at, if_neg (by omega), mC_at, if_neg (by omega), mC_at, if_neg (by omega)]
theorem svC_2 (u : Nat) (m : Mem) : (svC u m).2 = m.2 := rfl
theorem SvR.n {u : Nat} {m M : Mem} (h : SvR u m M) {c j : Nat} (q : ¬ (c = 74 ∧ j = 1)) (q' : c ≠ 75 ∨ j < 24 * u) : M.1 c j = m.1 c j := by rw [h, if_neg (by omega), if_neg (by omega), if_neg (by omega), if_neg (by omega), if_neg q]
theorem BathR.inj {Z : Nat → Nat} {b s : Nat} {mC mR : Mem} (h : BathR Z b s mC mR) {k k' t : Nat} (hk : k < 6) (hk' : k' < 6) (ht : t < 6) (e : mR.1 129 (6 * s + k) = zN t) (e' : mR.1 129 (6 * s + k') = zN t) : k = k' := by
  have hz := h.zz
  rcases h.pl k hk with ⟨q1, q2⟩ | ⟨q, t1, q1, q2, q3, q4⟩
  · rw [q2] at e
    have e := e.symm
    rw [zN_m1 (by omega)] at e
    exact e.elim
  · rcases h.pl k' hk' with ⟨w1, w2⟩ | ⟨w, t2, w1, w2, w3, w4⟩
    · rw [w2] at e'
      have e' := e'.symm
      rw [zN_m1 (by omega)] at e'
      exact e'.elim
    · rw [q3, zN_eq (by omega) (by omega)] at e
      rw [w3, zN_eq (by omega) (by omega)] at e'
      rw [e] at q4
      rw [e', q4, zN_eq (by omega) (by omega)] at w4
      exact w4
/-- one more is saved -/
theorem sav_new {Z : Nat → Nat} {u : Nat} {mC mR M M' : Mem} (hu : u ≤ 19) (hB : BathR Z 43 0 mC mR) (hP : ∀ i, i < u → SavR Z i mC mR) (hC : SvR u mC M) (hR : Cpy (3 + u) 0 mR M') : PastR Z (u + 1) M (mI M' 99 51 (zN (u + 1))) := by
  have hz := hB.zz
  have gC : ∀ d k, k < 6 → (d = 0 ∨ d = 6 ∨ d = 12 ∨ d = 18) → M.1 75 (24 * u + d + k) = mC.1 (if d = 0 then 44 else if d = 6 then 45 else if d = 12 then 48 else 51) k := by
    intro d k hk hd
    rw [hC]
    rcases hd with rfl | rfl | rfl | rfl
    · rw [if_pos (by omega), if_pos rfl, show 24 * u + 0 + k - 24 * u = k from by omega]
    · rw [if_neg (by omega), if_pos (by omega), if_neg (by omega), if_pos rfl, show 24 * u + 6 + k - (24 * u + 6) = k from by omega]
    · rw [if_neg (by omega), if_neg (by omega), if_pos (by omega), if_neg (by omega), if_neg (by omega), if_pos rfl, show 24 * u + 12 + k - (24 * u + 12) = k from by omega]
    · rw [if_neg (by omega), if_neg (by omega), if_neg (by omega), if_pos (by omega), if_neg (by omega), if_neg (by omega), if_neg (by omega), show 24 * u + 18 + k - (24 * u + 18) = k from by omega]
  have gR : ∀ c k, 126 ≤ c → c ≤ 133 → k < 6 → (mI M' 99 51 (zN (u + 1))).1 c (6 * (3 + u) + k) = mR.1 c k := by
    intro c k a b hk
    rw [mI_n (by omega), hR.q a b hk, Nat.mul_zero, Nat.zero_add]
  have e6 : ∀ k, 6 * 0 + k = k := fun k => by omega
  refine ⟨by omega, ?_, mI_s ⟨rfl, rfl⟩, fun i hi => ?_⟩
  · rw [hC, if_neg (by omega), if_neg (by omega), if_neg (by omega), if_neg (by omega), if_pos ⟨rfl, rfl⟩]
  · by_cases e : i = u
    · rw [e]
      refine ⟨fun k hk => ?_, fun k hk => ?_, fun k hk => ?_, fun k hk => ?_, fun k hk => ?_, fun k hk => ?_, fun k k' t hk hk' ht => ?_, fun c k hk hc => ?_, fun c a b => ?_⟩
      · have q := hB.eq 0 k (by omega) hk
        rw [e6] at q
        rw [gR _ _ (by omega) (by omega) hk, show 24 * u + k = 24 * u + 0 + k from by omega, gC 0 k hk (by omega), if_pos rfl]
        exact q
      · have q := hB.eq 1 k (by omega) hk
        rw [e6] at q
        rw [gR _ _ (by omega) (by omega) hk, gC 6 k hk (by omega), if_neg (by omega), if_pos rfl]
        exact q
      · have q := hB.eq 3 k (by omega) hk
        rw [e6] at q
        rw [gR _ _ (by omega) (by omega) hk, gC 18 k hk (by omega), if_neg (by omega), if_neg (by omega), if_neg (by omega)]
        exact q
      · have q := hB.li k hk
        rw [e6] at q
        rw [gR _ _ (by omega) (by omega) (by omega)]
        exact q
      · have q := hB.he k hk
        rw [e6] at q
        rw [gR _ _ (by omega) (by omega) (by omega)]
        exact q
      · have q := hB.pl k hk
        rw [e6] at q
        rw [gR _ _ (by omega) (by omega) hk, gC 12 k hk (by omega), if_neg (by omega), if_neg (by omega), if_pos rfl]
        rcases q with q | ⟨q, t, q1, q2, q3, q4⟩
        · exact Or.inl q
        · exact Or.inr ⟨q, t, q1, q2, q3⟩
      · rw [gR _ _ (by omega) (by omega) hk, gR _ _ (by omega) (by omega) hk']
        intro a b
        exact hB.inj hk hk' ht (by rw [e6]; exact a) (by rw [e6]; exact b)
      · rw [gR _ _ (by omega) (by omega) hk, mI_n (by omega), hR.n (by omega) (by omega)]
      · rw [mI_n (by omega), mI_n (by omega), hR.a a b, hR.n (by omega) (by omega)]
    · refine (hP i (by omega)).mv hz (fun k hk => ?_) (fun c k hk a b => ?_) (fun c k hk hc => ?_) (fun c a b => ⟨?_, ?_⟩)
      · exact hC.n (by omega) (by omega)
      · rw [mI_n (by omega), hR.n (by omega) (by omega)]
      · rw [mI_n (by omega), hR.n (by omega) (by omega)]
      · rw [mI_n (by omega), hR.n (by omega) (by omega)]
      · rw [mI_n (by omega), hR.n (by omega) (by omega)]
def Shf (x : Nat) (m M : Mem) : Prop := ∀ c j, M.1 c j = if 123 ≤ c ∧ c ≤ 125 ∧ x + 2 ≤ j ∧ j ≤ 21 then m.1 c (j + 1) else if 126 ≤ c ∧ c ≤ 133 ∧ 6 * (x + 2) ≤ j ∧ j < 132 then m.1 c (j + 6) else m.1 c j
theorem shift_loop {N : Nat} {k35 : Mem → Option Mem} (hN : 100 ≤ N) : ∀ rem x n m, x + rem = 20 → 1 ≤ x → rem < n → ∃ M, fX12_keepNow_11 N k35 n (zN x) m = k35 M ∧ Shf x m M := by
  intro rem
  induction rem with
  | zero =>
    intro x n m hx h1 hn
    obtain ⟨n', rfl, _⟩ := fuel hn
    rw [fX12_keepNow_11, if_pos (show (20 : Int32) ≤ zN x from zle' (a := 20) (by omega) (by omega) (by omega))]
    exact ⟨m, rfl, fun c j => by rw [if_neg (by omega), if_neg (by omega)]⟩
  | succ rem ih =>
    intro x n m hx h1 hn
    obtain ⟨n', rfl, hn⟩ := fuel hn
    obtain ⟨m1, a1, a2⟩ := copies_ok (N := N) (a := 3 + x - 1) (b := 3 + x) (m := m) hN (by omega) (by omega) (by omega)
    rw [fX12_keepNow_11, if_neg (show ¬ ((20 : Int32) ≤ zN x) from zle (a := 20) (by omega) (by omega) (by omega)), show (3 : Int32) + zN x = zN (3 + x) from zN_add 3 x, show zN (3 + x) - (1 : Int32) = zN (3 + x - 1) from zN_sub (b := 1) (by omega), a1, b_some, zN_s]
    obtain ⟨M, b1, b2⟩ := ih (x + 1) n' m1 (by omega) (by omega) (by omega)
    refine ⟨M, b1, fun c j => ?_⟩
    rw [b2]
    by_cases p : 123 ≤ c ∧ c ≤ 125 ∧ x + 2 ≤ j ∧ j ≤ 21
    · rw [if_pos p]
      by_cases q : j = x + 2
      · rw [if_neg (by omega), if_neg (by omega), show j = 3 + x - 1 from by omega, a2.a p.1 p.2.1, show 3 + x - 1 + 1 = 3 + x from by omega]
      · rw [if_pos (by omega), a2.n (by omega) (by omega)]
    · rw [if_neg p, if_neg (by omega)]
      by_cases p : 126 ≤ c ∧ c ≤ 133 ∧ 6 * (x + 2) ≤ j ∧ j < 132
      · rw [if_pos p]
        by_cases q : j < 6 * (x + 3)
        · have := a2.q (k := j - 6 * (x + 2)) p.1 p.2.1 (by omega)
          rw [if_neg (by omega)]
          rw [show 6 * (3 + x - 1) + (j - 6 * (x + 2)) = j from by omega, show 6 * (3 + x) + (j - 6 * (x + 2)) = j + 6 from by omega] at this
          exact this
        · rw [if_pos (by omega), a2.n (by omega) (by omega)]
      · rw [if_neg p, if_neg (by omega), a2.n (by omega) (by omega)]
theorem save_rel {Z : Nat → Nat} {N u : Nat} {mc mR : Mem} (hN : 100 ≤ N) (hB : BathR Z 43 0 mc mR) (hP : PastR Z u mc mR) : ∃ M M' u', fX7_save 43 mc = some M ∧ fX12_keepNow N mR = some M' ∧ PastR Z u' M M' ∧ (∀ c k, ¬ (c = 74 ∧ k = 1) → c ≠ 75 → M.1 c k = mc.1 c k) ∧ M.2 = mc.2 ∧ (∀ c k, ¬ (c = 99 ∧ k = 51) → ¬ (123 ≤ c ∧ c ≤ 125 ∧ 3 ≤ k) → ¬ (126 ≤ c ∧ c ≤ 133 ∧ 18 ≤ k) → M'.1 c k = mR.1 c k) := by
  have hz := hB.zz
  have hub := hP.ub
  have K45 : ∀ (w : Nat) (m : Mem), w ≤ 19 → m.1 99 51 = zN w → ∃ M', fX12_keepNow_45 N m = some (mI M' 99 51 (zN (w + 1))) ∧ Cpy (3 + w) 0 m M' := by
    intro w m hw e
    obtain ⟨M', a1, a2⟩ := copies_ok (N := N) (a := 3 + w) (b := 0) (m := m) hN (by omega) (by omega) (by omega)
    refine ⟨M', ?_, a2⟩
    unfold fX12_keepNow_45
    rw [e, show (3 : Int32) + zN w = zN (3 + w) from zN_add 3 w, show fX12_copies N (zN (3 + w)) (0 : Int32) m = some M' from a1, b_some, a2.n (by omega) (by omega), e, zN_s]
  unfold fX7_save fX12_keepNow
  rw [hP.uc, hP.ur]
  by_cases h : u = 20
  · rw [if_neg (show ¬ (zN u < (20 : Int32)) from zlt (c := 20) (by omega) (by omega) (by omega)), if_neg (by decide), if_pos (show zN u = (20 : Int32) from by rw [h]; rfl)]
    obtain ⟨m1, a1, a2⟩ := shift_loop (N := N) (k35 := fX12_keepNow_35 N) hN 19 1 N mR (by omega) (by omega) (by omega)
    rw [show fX12_keepNow_11 N (fX12_keepNow_35 N) N (1 : Int32) mR = fX12_keepNow_35 N m1 from a1]
    unfold fX12_keepNow_35
    have e51 : m1.1 99 51 = zN 20 := by
      rw [a2, if_neg (by omega), if_neg (by omega), hP.ur, h]
    rw [e51, show zN 20 - (1 : Int32) = zN 19 from rfl]
    obtain ⟨M', b1, b2⟩ := K45 19 (mI m1 99 51 (zN 19)) (by omega) (mI_s ⟨rfl, rfl⟩)
    rw [b1, show (24 : Int32).toNatClampNeg = 24 from rfl, show (0 : Int32).toNatClampNeg = 0 from rfl, show (456 : Int32).toNatClampNeg = 456 from rfl]
    rw [save32 (u := 19) (m := mI (mC mc 75 24 75 0 456) 74 1 (19 : Int32)) (by omega) (mI_s ⟨rfl, rfl⟩)]
    have hc1 := svC_at 19 (mI (mC mc 75 24 75 0 456) 74 1 (19 : Int32))
    have fC : ∀ c k, ¬ (c = 74 ∧ k = 1) → c ≠ 75 → (mI (mC mc 75 24 75 0 456) 74 1 (19 : Int32)).1 c k = mc.1 c k := fun c k p q => by rw [mI_n (by omega), mC_at, if_neg (by omega)]
    have fR : ∀ c k, ¬ (c = 99 ∧ k = 51) → ¬ (123 ≤ c ∧ c ≤ 125 ∧ 3 ≤ k) → ¬ (126 ≤ c ∧ c ≤ 133 ∧ 18 ≤ k) → (mI m1 99 51 (zN 19)).1 c k = mR.1 c k := fun c k p q r => by rw [mI_n (by omega), a2, if_neg (by omega), if_neg (by omega)]
    have hB1 : BathR Z 43 0 (mI (mC mc 75 24 75 0 456) 74 1 (19 : Int32)) (mI m1 99 51 (zN 19)) := hB.cong (fun c k _ _ => fC c k (by omega) (by omega)) rfl (fun c _ _ => fR c 0 (by omega) (by omega) (by omega)) (fun c k _ _ _ => fR c _ (by omega) (by omega) (by omega))
    have hP1 : ∀ i, i < 19 → SavR Z i (mI (mC mc 75 24 75 0 456) 74 1 (19 : Int32)) (mI m1 99 51 (zN 19)) := by
      intro i hi
      refine (hP.sv (i + 1) (by omega)).mv hz (fun k hk => ?_) (fun c k hk a b => ?_) (fun c k hk hc => ?_) (fun c a b => ⟨?_, ?_⟩)
      · rw [mI_n (by omega), mC_at, if_pos (by omega), show 24 + (24 * i + k - 0) = 24 * (i + 1) + k from by omega]
      · rw [mI_n (by omega), a2, if_neg (by omega), if_pos (by omega), show 6 * (3 + i) + k + 6 = 6 * (3 + (i + 1)) + k from by omega]
      · rw [mI_n (by omega), a2, if_neg (by omega), if_neg (by omega)]
      · rw [mI_n (by omega), a2, if_neg (by omega), if_neg (by omega)]
      · rw [mI_n (by omega), a2, if_pos (by omega), show 3 + i + 1 = 3 + (i + 1) from by omega]
    refine ⟨_, _, 20, rfl, rfl, sav_new (by omega) hB1 hP1 hc1 b2, fun c k p q => ?_, rfl, fun c k p q r => ?_⟩
    · rw [hc1.n (by omega) (by omega), fC c k p q]
    · rw [mI_n (by omega), b2.n (by omega) (by omega), fR c k p q r]
  · rw [if_pos (show zN u < (20 : Int32) from by rw [show (20 : Int32) = zN 20 from rfl, zN_lt (by omega) (by omega)]; omega), if_neg (show ¬ (zN u = (20 : Int32)) from zne (c := 20) (by omega) (by omega) (by omega))]
    obtain ⟨M', b1, b2⟩ := K45 u mR (by omega) hP.ur
    have hc1 := svC_at u mc
    rw [b1, save32 (by omega) hP.uc]
    refine ⟨_, _, u + 1, rfl, rfl, sav_new (by omega) hB hP.sv hc1 b2, fun c k p q => ?_, rfl, fun c k p q r => ?_⟩
    · rw [hc1.n (by omega) (by omega)]
    · rw [mI_n (by omega), b2.n (by omega) (by omega)]
