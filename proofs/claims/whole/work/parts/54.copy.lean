/-! copies of baths, what is saved -/
def cp1 (m : Mem) (c p q : Nat) : Mem := mI m c p (m.1 c q)
theorem cp1_at (m : Mem) (c p q c' j : Nat) : (cp1 m c p q).1 c' j = if c' = c ∧ j = p then m.1 c q else m.1 c' j := by
  unfold cp1
  rw [mI_at]
def cp8 (m : Mem) (p q : Nat) : Mem := cp1 (cp1 (cp1 (cp1 (cp1 (cp1 (cp1 (cp1 m 126 p q) 127 p q) 128 p q) 129 p q) 130 p q) 131 p q) 132 p q) 133 p q
theorem cp8_at (m : Mem) (p q c j : Nat) : (cp8 m p q).1 c j = if 126 ≤ c ∧ c ≤ 133 ∧ j = p then m.1 c q else m.1 c j := by
  unfold cp8
  simp only [cp1_at]
  by_cases h : 126 ≤ c ∧ c ≤ 133 ∧ j = p
  · rw [if_pos h]
    obtain ⟨h1, h2, rfl⟩ := h
    have : c = 126 ∨ c = 127 ∨ c = 128 ∨ c = 129 ∨ c = 130 ∨ c = 131 ∨ c = 132 ∨ c = 133 := by omega
    rcases this with rfl | rfl | rfl | rfl | rfl | rfl | rfl | rfl <;> simp
  · rw [if_neg h, if_neg (by omega), if_neg (by omega), if_neg (by omega), if_neg (by omega), if_neg (by omega), if_neg (by omega), if_neg (by omega), if_neg (by omega)]
theorem copies_step {N n a b k : Nat} {m : Mem} (ha : a ≤ 22) (hb : b ≤ 22) (hk : k < 6) : fX12_copies_38 N (n + 1) (zN a) (zN b) (zN k) m = fX12_copies_38 N n (zN a) (zN b) (zN (k + 1)) (cp8 m (6 * a + k) (6 * b + k)) := by
  rw [fX12_copies_38, if_neg (show ¬ ((6 : Int32) ≤ zN k) from zle (a := 6) (by omega) (by omega) (by omega))]
  rw [zN_6, zN_6, zN_s, g_in (by omega) (by omega), g_in (by omega) (by omega), g_in (by omega) (by omega), g_in (by omega) (by omega), g_in (by omega) (by omega), g_in (by omega) (by omega), g_in (by omega) (by omega), g_in (by omega) (by omega), g_in (by omega) (by omega), g_in (by omega) (by omega), g_in (by omega) (by omega), g_in (by omega) (by omega), g_in (by omega) (by omega), g_in (by omega) (by omega), g_in (by omega) (by omega), g_in (by omega) (by omega), zN_cl (by omega), zN_cl (by omega)]
  rfl
def Cpy (a b : Nat) (m M : Mem) : Prop := ∀ c j, M.1 c j = if 123 ≤ c ∧ c ≤ 125 ∧ j = a then m.1 c b else if 126 ≤ c ∧ c ≤ 133 ∧ 6 * a ≤ j ∧ j < 6 * a + 6 then m.1 c (6 * b + (j - 6 * a)) else m.1 c j
theorem copies_loop {N a b : Nat} (ha : a ≤ 22) (hb : b ≤ 22) (hab : a ≠ b) : ∀ rem k n m, k + rem = 6 → rem < n → ∃ M : Mem, fX12_copies_38 N n (zN a) (zN b) (zN k) m = some M ∧ ∀ c j, M.1 c j = if 126 ≤ c ∧ c ≤ 133 ∧ 6 * a + k ≤ j ∧ j < 6 * a + 6 then m.1 c (6 * b + (j - 6 * a)) else m.1 c j := by
  intro rem
  induction rem with
  | zero =>
    intro k n m hk hn
    obtain ⟨n', rfl, _⟩ := fuel hn
    rw [fX12_copies_38, if_pos (show (6 : Int32) ≤ zN k from zle' (a := 6) (by omega) (by omega) (by omega))]
    exact ⟨m, rfl, fun c j => by rw [if_neg (by omega)]⟩
  | succ rem ih =>
    intro k n m hk hn
    obtain ⟨n', rfl, hn⟩ := fuel hn
    rw [copies_step ha hb (by omega)]
    obtain ⟨M, h1, h2⟩ := ih (k + 1) n' (cp8 m (6 * a + k) (6 * b + k)) (by omega) (by omega)
    refine ⟨M, h1, fun c j => ?_⟩
    rw [h2]
    by_cases e : 126 ≤ c ∧ c ≤ 133 ∧ 6 * a + k ≤ j ∧ j < 6 * a + 6
    · rw [if_pos e]
      by_cases e2 : j = 6 * a + k
      · rw [if_neg (by omega), cp8_at, if_pos ⟨e.1, e.2.1, e2⟩, show 6 * b + (j - 6 * a) = 6 * b + k from by omega]
      · rw [if_pos (by omega), cp8_at, if_neg (by omega)]
    · rw [if_neg e, if_neg (by omega), cp8_at, if_neg (by omega)]
theorem copies_ok {N a b : Nat} {m : Mem} (hN : 100 ≤ N) (ha : a ≤ 22) (hb : b ≤ 22) (hab : a ≠ b) : ∃ M, fX12_copies N (zN a) (zN b) m = some M ∧ Cpy a b m M := by
  have E : fX12_copies N (zN a) (zN b) m = fX12_copies_38 N N (zN a) (zN b) (zN 0) (cp1 (cp1 (cp1 m 123 a b) 124 a b) 125 a b) := by
    unfold fX12_copies
    rw [g_in (k := b) (by omega) (by omega), g_in (k := a) (by omega) (by omega), g_in (k := b) (by omega) (by omega), g_in (k := a) (by omega) (by omega), g_in (k := b) (by omega) (by omega), g_in (k := a) (by omega) (by omega), zN_cl (n := a) (by omega), zN_cl (n := b) (by omega)]
    rfl
  rw [E]
  obtain ⟨M, h1, h2⟩ := copies_loop (N := N) ha hb hab 6 0 N (cp1 (cp1 (cp1 m 123 a b) 124 a b) 125 a b) (by omega) (by omega)
  refine ⟨M, h1, fun c j => ?_⟩
  rw [h2]
  simp only [cp1_at]
  by_cases e : 123 ≤ c ∧ c ≤ 125 ∧ j = a
  · obtain ⟨e1, e2, rfl⟩ := e
    rw [if_neg (by omega)]
    have : c = 123 ∨ c = 124 ∨ c = 125 := by omega
    rcases this with rfl | rfl | rfl <;> simp
  · rw [if_neg e]
    by_cases e3 : 126 ≤ c ∧ c ≤ 133 ∧ 6 * a ≤ j ∧ j < 6 * a + 6
    · rw [if_pos (by omega), if_neg (by omega), if_neg (by omega), if_neg (by omega), if_pos e3]
    · rw [if_neg (by omega), if_neg (by omega), if_neg (by omega), if_neg (by omega), if_neg e3]
theorem Cpy.n {a b : Nat} {m M : Mem} (h : Cpy a b m M) {c j : Nat} (q : ¬ (123 ≤ c ∧ c ≤ 125 ∧ j = a)) (q' : ¬ (126 ≤ c ∧ c ≤ 133 ∧ 6 * a ≤ j ∧ j < 6 * a + 6)) : M.1 c j = m.1 c j := by rw [h, if_neg q, if_neg q']
theorem Cpy.a {a b : Nat} {m M : Mem} (h : Cpy a b m M) {c : Nat} (q : 123 ≤ c) (q' : c ≤ 125) : M.1 c a = m.1 c b := by rw [h, if_pos ⟨q, q', rfl⟩]
theorem Cpy.q {a b : Nat} {m M : Mem} (h : Cpy a b m M) {c k : Nat} (q : 126 ≤ c) (q' : c ≤ 133) (hk : k < 6) : M.1 c (6 * a + k) = m.1 c (6 * b + k) := by rw [h, if_neg (by omega), if_pos (by omega), show 6 * b + (6 * a + k - 6 * a) = 6 * b + k from by omega]
/-! the class's copies -/
def becN (b b' : Nat) (m : Mem) : Nat → Mem
  | 0 => m
  | i + 1 => mC (becN b b' m i) (b' + (i + 1)) 0 (b + (i + 1)) 0 6
def bec (b b' : Nat) (m : Mem) : Mem := mJ (mI (mI (becN b b' m 9) b 9 ((becN b b' m 9).1 b' 9)) b 10 ((mI (becN b b' m 9) b 9 ((becN b b' m 9).1 b' 9)).1 b' 10)) b 11 ((mI (mI (becN b b' m 9) b 9 ((becN b b' m 9).1 b' 9)) b 10 ((mI (becN b b' m 9) b 9 ((becN b b' m 9).1 b' 9)).1 b' 10)).2.1 b' 11)
theorem become_eq (b b' : Nat) (m : Mem) : fX0_become b b' m = some (bec b b' m) := by
  unfold fX0_become
  rw [if_neg (by decide), if_neg (by decide), if_neg (by decide), if_neg (by decide), if_neg (by decide), if_neg (by decide), if_neg (by decide), if_neg (by decide), if_neg (by decide), show (0 : Int32).toNatClampNeg = 0 from rfl, show (6 : Int32).toNatClampNeg = 6 from rfl]
  rfl
theorem becN_at {b b' : Nat} {m : Mem} (h : b + 9 < b' ∨ b' + 9 < b) : ∀ i, i ≤ 9 → ∀ c k, (becN b b' m i).1 c k = if b + 1 ≤ c ∧ c ≤ b + i ∧ k < 6 then m.1 (b' + (c - b)) k else m.1 c k := by
  intro i
  induction i with
  | zero =>
    intro _ c k
    rw [if_neg (by omega), becN]
  | succ i ih =>
    intro hi c k
    rw [becN, mC_at]
    by_cases e : c = b + (i + 1) ∧ 0 ≤ k ∧ k < 0 + 6
    · rw [if_pos e, ih (by omega), if_neg (by omega), if_pos (by omega), show b' + (c - b) = b' + (i + 1) from by omega, Nat.zero_add, Nat.sub_zero]
    · rw [if_neg e, ih (by omega)]
      by_cases e2 : b + 1 ≤ c ∧ c ≤ b + i ∧ k < 6
      · rw [if_pos e2, if_pos (by omega)]
      · rw [if_neg e2, if_neg (by omega)]
theorem becN_2 (b b' : Nat) (m : Mem) : ∀ i, (becN b b' m i).2 = m.2 := by
  intro i
  induction i with
  | zero => rfl
  | succ i ih => rw [becN, mC_2, ih]
/-- what a copy of baths is -/
def BecR (b b' : Nat) (m M : Mem) : Prop := (∀ c k, 1 ≤ c → c ≤ 9 → k < 6 → M.1 (b + c) k = m.1 (b' + c) k) ∧ (M.1 b 9 = m.1 b' 9) ∧ (M.1 b 10 = m.1 b' 10) ∧ (M.2.1 b 11 = m.2.1 b' 11) ∧ (∀ c k, c < b ∨ b + 9 < c → M.1 c k = m.1 c k) ∧ (∀ c k, c ≠ b → M.2.1 c k = m.2.1 c k) ∧ (M.2.2 = m.2.2)
theorem BecR.r {b b' : Nat} {m M : Mem} (h : BecR b b' m M) : ∀ c k, 1 ≤ c → c ≤ 9 → k < 6 → M.1 (b + c) k = m.1 (b' + c) k := h.1
theorem BecR.m {b b' : Nat} {m M : Mem} (h : BecR b b' m M) : M.1 b 9 = m.1 b' 9 := h.2.1
theorem BecR.s {b b' : Nat} {m M : Mem} (h : BecR b b' m M) : M.1 b 10 = m.1 b' 10 := h.2.2.1
theorem BecR.j {b b' : Nat} {m M : Mem} (h : BecR b b' m M) : M.2.1 b 11 = m.2.1 b' 11 := h.2.2.2.1
theorem BecR.n {b b' : Nat} {m M : Mem} (h : BecR b b' m M) : ∀ c k, c < b ∨ b + 9 < c → M.1 c k = m.1 c k := h.2.2.2.2.1
theorem BecR.nj {b b' : Nat} {m M : Mem} (h : BecR b b' m M) : ∀ c k, c ≠ b → M.2.1 c k = m.2.1 c k := h.2.2.2.2.2.1
theorem BecR.o {b b' : Nat} {m M : Mem} (h : BecR b b' m M) : M.2.2 = m.2.2 := h.2.2.2.2.2.2
theorem become_ok {b b' : Nat} {m : Mem} (h : b + 9 < b' ∨ b' + 9 < b) : ∃ M, fX0_become b b' m = some M ∧ BecR b b' m M := by
  refine ⟨_, become_eq b b' m, fun c k h1 h2 h3 => ?_, ?_, ?_, ?_, fun c k q => ?_, fun c k q => ?_, ?_⟩
  · unfold bec
    rw [mJ_1, mI_n (by omega), mI_n (by omega), becN_at h 9 (by omega), if_pos (by omega), show b' + (b + c - b) = b' + c from by omega]
  · unfold bec
    rw [mJ_1, mI_n (by omega), mI_s ⟨rfl, rfl⟩, becN_at h 9 (by omega), if_neg (by omega)]
  · unfold bec
    rw [mJ_1, mI_s ⟨rfl, rfl⟩, mI_n (by omega), becN_at h 9 (by omega), if_neg (by omega)]
  · unfold bec
    rw [mJ_s ⟨rfl, rfl⟩, mI_2, mI_2, becN_2]
  · unfold bec
    rw [mJ_1, mI_n (by omega), mI_n (by omega), becN_at h 9 (by omega), if_neg (by omega)]
  · unfold bec
    rw [mJ_n (by omega), mI_2, mI_2, becN_2]
  · unfold bec
    rw [mJ_r, mI_2, mI_2, becN_2]
theorem BathR.move {Z : Nat → Nat} {b s b' s' : Nat} {mC mR mC' mR' : Mem} (h : BathR Z b' s' mC mR) (hb : b = 43 ∨ b = 53 ∨ b = 63 ∨ b = 84) (hs : s ≤ 22) (hC : BecR b b' mC mC') (hR : Cpy s s' mR mR') : BathR Z b s mC' mR' := by
  have hz := h.zz
  refine ⟨hb, hs, h.zz, fun j k hj hk => ?_, fun k hk => ?_, fun k hk => ?_, fun k hk => ?_, fun k hk => ?_, fun t ht => ?_, ?_, ?_, ?_⟩
  · have h1 := pc_in j hj
    have h2 := pr_in j hj
    rw [hC.r _ _ (by omega) (by omega) hk, hR.q (by omega) (by omega) hk]
    exact h.eq j k hj hk
  · rw [hR.q (by omega) (by omega) (by omega)]
    exact h.li k hk
  · rw [hR.q (by omega) (by omega) (by omega)]
    exact h.he k hk
  · rw [hR.q (by omega) (by omega) (by omega)]
    exact h.be k hk
  · rw [hC.r _ _ (by omega) (by omega) hk, hR.q (by omega) (by omega) hk]
    rcases h.pl k hk with q | ⟨q, t, q1, q2, q3, q4⟩
    · exact Or.inl q
    · exact Or.inr ⟨q, t, q1, q2, q3, by rw [hC.r _ _ (by omega) (by omega) (by omega)]; exact q4⟩
  · rw [hC.r _ _ (by omega) (by omega) ht]
    rcases h.ho t ht with q | ⟨k, q1, q2, q3⟩
    · exact Or.inl q
    · exact Or.inr ⟨k, q1, q2, by rw [hC.r _ _ (by omega) (by omega) (by omega)]; exact q3⟩
  · rw [hC.m, hR.a (by omega) (by omega)]
    exact h.mi
  · rw [hC.s, hR.a (by omega) (by omega)]
    exact h.so
  · rw [hC.j, hR.a (by omega) (by omega)]
    exact h.nu
theorem KCode.cong2 {o : Nat} {mC mR mC' mR' : Mem} {f t : Nat} (ho : 7 ≤ o ∧ o ≤ 25) (hC : ∀ c k, 7 ≤ c → c < 43 → mC'.1 c k = mC.1 c k) (hR : ∀ c k, 100 ≤ c → c ≤ 120 → mR'.1 c k = mR.1 c k) (h : KCode o mC mR f t) : KCode o mC' mR' f t := by
  obtain ⟨d, h1, h2, h3⟩ := h
  refine ⟨d, h1, h2, fun i a b => ?_⟩
  rw [hC _ _ (by omega) (by omega), hC _ _ (by omega) (by omega), hR _ _ (by omega) (by omega), hR _ _ (by omega) (by omega)]
  exact h3 i a b
theorem OrdR.cong2 {Z : Nat → Nat} {o : Nat} {mC mR mC' mR' : Mem} (h : OrdR Z o mC mR) (hC : ∀ c k, 7 ≤ c → c < 43 → mC'.1 c k = mC.1 c k) (hR : ∀ c k, 100 ≤ c → c ≤ 120 → mR'.1 c k = mR.1 c k) : OrdR Z o mC' mR' := by
  have ho : 7 ≤ o ∧ o ≤ 25 := by have := h.ho; omega
  refine ⟨h.ho, h.zb, fun i hi => ?_, fun i hi => ?_, fun i k c hi hk hc => ?_, fun k hk => ?_, fun k hk => ?_, fun k hk => ?_, fun k hk => ?_, fun k hk => ?_, ?_, ?_, fun r hr => ?_, ?_⟩
  · rw [hC _ _ (by omega) (by omega)]
    exact h.sC i hi
  · rw [hR _ _ (by omega) (by omega)]
    exact h.sR i hi
  · rw [hC _ _ (by omega) (by omega), hR _ _ (by omega) (by omega)]
    exact h.rw i k c hi hk hc
  · rw [hR _ _ (by omega) (by omega), hR _ _ (by omega) (by omega)]
    exact h.kb k hk
  · rw [hR _ _ (by omega) (by omega), hR _ _ (by omega) (by omega)]
    exact h.tl k hk
  · rw [hR _ _ (by omega) (by omega), hR _ _ (by omega) (by omega)]
    exact h.st k hk
  · rw [hR _ _ (by omega) (by omega), hR _ _ (by omega) (by omega)]
    exact h.ca k hk
  · rw [hR _ _ (by omega) (by omega), hR _ _ (by omega) (by omega), hR _ _ (by omega) (by omega)]
    exact h.pi k hk
  · rw [hC _ _ (by omega) (by omega), hR _ _ (by omega) (by omega)]
    exact h.fl
  · rw [hC _ _ (by omega) (by omega), hR _ _ (by omega) (by omega)]
    exact h.sd
  · obtain ⟨f, t, a1, a2, a3, a4, a5, a6, a7⟩ := h.lw r hr
    refine ⟨f, t, a1, a2, ?_, ?_, ?_, ?_, fun q => (a7 q).cong2 ho hC hR⟩
    · rw [hC _ _ (by omega) (by omega)]
      exact a3
    · rw [hR _ _ (by omega) (by omega)]
      exact a4
    · rw [hC _ _ (by omega) (by omega)]
      exact a5
    · rw [hR _ _ (by omega) (by omega)]
      exact a6
  · rw [hC _ _ (by omega) (by omega), hR _ _ (by omega) (by omega)]
    exact h.kn
/-! keep and back -/
def NC (m m' : Mem) : Prop := (∀ c k, c < 43 ∨ (63 ≤ c ∧ c ≤ 72) ∨ (76 ≤ c ∧ c ≤ 81) → m'.1 c k = m.1 c k) ∧ m'.2.1 63 11 = m.2.1 63 11 ∧ m'.2.2 = m.2.2
def NR (m m' : Mem) : Prop := ∀ c k, ¬ (c = 99 ∧ (k = 0 ∨ k = 38 ∨ k = 51 ∨ k = 56 ∨ k = 57)) → ¬ (123 ≤ c ∧ c ≤ 125 ∧ k ≠ 2) → ¬ (126 ≤ c ∧ c ≤ 133 ∧ (k < 12 ∨ 18 ≤ k)) → c ≠ 134 → c ≠ 135 → c ≠ 141 → c ≠ 142 → m'.1 c k = m.1 c k
theorem InvZ.now {Z : Nat → Nat} {o nt nu nf nu' : Nat} {mC mR mC' mR' : Mem} (h : InvZ Z o nt nu nf mC mR) (hB : BathR Z 43 0 mC' mR') (hP : PastR Z nu' mC' mR') (hC : NC mC mC') (hR : NR mR mR') : InvZ Z o nt nu' nf mC' mR' := by
  obtain ⟨hC, hJ, hr⟩ := hC
  unfold NR at hR
  refine ⟨h.od.cong (fun c k q => hC c k (by omega)) (fun c k a b => hR c k (by omega) (by omega) (by omega) (by omega) (by omega) (by omega) (by omega)), ?_, hB, ?_, h.tp.cong (fun c k q => hC c k (by omega)) (hR _ _ (by omega) (by omega) (by omega) (by omega) (by omega) (by omega) (by omega)) (fun k => hR _ _ (by omega) (by omega) (by omega) (by omega) (by omega) (by omega) (by omega)), ?_, ?_, hP, h.fa.cong (fun c k a b => hC _ _ (by omega)) (hR _ _ (by omega) (by omega) (by omega) (by omega) (by omega) (by omega) (by omega)) (hR _ _ (by omega) (by omega) (by omega) (by omega) (by omega) (by omega) (by omega)) (fun c k a b => hR _ _ (by omega) (by omega) (by omega) (by omega) (by omega) (by omega) (by omega)), h.cs.cong (fun w => hC _ _ (by omega)) (fun o i a b => hC _ _ (by omega))⟩
  · rw [hr]
    exact h.sp
  · rw [hC 0 8 (by omega), hR 99 50 (by omega) (by omega) (by omega) (by omega) (by omega) (by omega) (by omega)]
    rcases h.im with q | ⟨q1, q2, q3⟩
    · exact Or.inl q
    · exact Or.inr ⟨q1, q2, q3.cong (fun c k a b => hC c k (by omega)) hJ (fun c a b => hR c _ (by omega) (by omega) (by omega) (by omega) (by omega) (by omega) (by omega)) (fun c k a b e => hR c _ (by omega) (by omega) (by omega) (by omega) (by omega) (by omega) (by omega))⟩
  · rw [hC 2 7 (by omega), hC 2 8 (by omega), hR 99 32 (by omega) (by omega) (by omega) (by omega) (by omega) (by omega) (by omega), hR 99 33 (by omega) (by omega) (by omega) (by omega) (by omega) (by omega) (by omega)]
    exact h.ft
  · rw [hR 99 52 (by omega) (by omega) (by omega) (by omega) (by omega) (by omega) (by omega), hR 99 53 (by omega) (by omega) (by omega) (by omega) (by omega) (by omega) (by omega)]
    exact h.ty
theorem PastR.no {Z : Nat → Nat} {mC mR : Mem} (h1 : mC.1 74 1 = 0) (h2 : mR.1 99 51 = 0) : PastR Z 0 mC mR := ⟨by omega, h1, h2, fun i hi => absurd hi (by omega)⟩
theorem op35 {N : Nat} (hN : 100 ≤ N) : OP35 Inv N := by
  intro mC mR ⟨Z, o, nt, nu, nf, h⟩
  have h := h.th 0
  unfold fX11_back fX12_back
  generalize mI mR 99 0 (0 : Int32) = R at h ⊢
  rcases h.im with ⟨q1, q2⟩ | ⟨q1, q2, q3⟩
  · rw [q1, q2, if_pos rfl, if_pos rfl]
    exact ⟨-1, _, _, rfl, rfl, h.i⟩
  · rw [q1, q2, if_neg z10, if_neg z10]
    obtain ⟨M, a1, a2⟩ := become_ok (b := 43) (b' := 63) (m := mC) (by omega)
    obtain ⟨M', b1, b2⟩ := copies_ok (N := N) (a := 0) (b := 2) (m := R) hN (by omega) (by omega) (by omega)
    have B := q3.move (b := 43) (s := 0) (by omega) (by omega) a2 b2
    rw [a1, show fX12_copies N (0 : Int32) (2 : Int32) R = some M' from b1, b_some, b_some]
    unfold fX7_forget
    rw [b_some]
    have B' : BathR Z 43 0 (mI M 74 1 0) (mI M' 99 51 0) := B.cong (fun c k _ _ => mI_n (by omega)) rfl (fun c _ _ => mI_n (by omega)) (fun c k _ _ _ => mI_n (by omega))
    have I : InvZ Z o nt 0 nf (mI M 74 1 0) (mI M' 99 51 0) := by
      refine h.now B' (PastR.no (mI_s ⟨rfl, rfl⟩) (mI_s ⟨rfl, rfl⟩)) ⟨fun c k q => ?_, ?_, ?_⟩ (fun c k p1 p2 p3 p4 p5 p6 p7 => ?_)
      · rw [mI_n (by omega), a2.n _ _ (by omega)]
      · rw [mI_2, a2.nj _ _ (by omega)]
      · rw [mI_2, a2.o]
      · rw [mI_n (by omega), b2.n (by omega) (by omega)]
    refine ⟨_, _, _, rfl, ?_, I.i⟩
    rw [B'.mi]
theorem op34 {N : Nat} (hN : 100 ≤ N) : OP34 Inv N := by
  intro mC mR ⟨Z, o, nt, nu, nf, h⟩
  have h := h.th 0
  have hz := h.nw.zz
  unfold fX11_keep fX12_keep
  generalize mI mR 99 0 (0 : Int32) = R at h ⊢
  obtain ⟨M, a1, a2⟩ := become_ok (b := 63) (b' := 43) (m := mC) (by omega)
  obtain ⟨M', b1, b2⟩ := copies_ok (N := N) (a := 2) (b := 0) (m := R) hN (by omega) (by omega) (by omega)
  have B := h.nw.move (b := 63) (s := 2) (by omega) (by omega) a2 b2
  rw [a1, show fX12_copies N (2 : Int32) (0 : Int32) R = some M' from b1, b_some, b_some]
  have B' : BathR Z 63 2 (mI M 0 8 1) (mI M' 99 50 1) := B.cong (fun c k _ _ => mI_n (by omega)) rfl (fun c _ _ => mI_n (by omega)) (fun c k _ _ _ => mI_n (by omega))
  have hC : ∀ c k, c < 63 ∨ 72 < c → ¬ (c = 0 ∧ k = 8) → (mI M 0 8 1).1 c k = mC.1 c k := fun c k p q => by rw [mI_n (by omega), a2.n _ _ (by omega)]
  have hR : ∀ c k, ¬ (c = 99 ∧ k = 50) → ¬ (123 ≤ c ∧ c ≤ 125 ∧ k = 2) → ¬ (126 ≤ c ∧ c ≤ 133 ∧ 12 ≤ k ∧ k < 18) → (mI M' 99 50 1).1 c k = R.1 c k := fun c k p1 p2 p3 => by rw [mI_n (by omega), b2.n (by omega) (by omega)]
  have hJ : (mI M 0 8 1).2.1 43 11 = mC.2.1 43 11 := by rw [mI_2, a2.nj _ _ (by omega)]
  have W : BathR Z 43 0 (mI M 0 8 1) (mI M' 99 50 1) := h.nw.cong (fun c k a b => hC c k (by omega) (by omega)) hJ (fun c a b => hR c _ (by omega) (by omega) (by omega)) (fun c k a b e => hR c _ (by omega) (by omega) (by omega))
  have I : InvZ Z o nt nu nf (mI M 0 8 1) (mI M' 99 50 1) := by
    refine ⟨h.od.cong2 (fun c k q q' => hC c k (by omega) (by omega)) (fun c k a b => hR c k (by omega) (by omega) (by omega)), ?_, W, Or.inr ⟨mI_s ⟨rfl, rfl⟩, mI_s ⟨rfl, rfl⟩, B'⟩, ?_, ?_, ?_, h.ps.cong hz (hC _ _ (by omega) (by omega)) (fun k => hC _ _ (by omega) (by omega)) (fun c k a b e => hR _ _ (by omega) (by omega) (by omega)) (fun c k a b => hR _ _ (by omega) (by omega) (by omega)) (fun c k a b e => hR _ _ (by omega) (by omega) (by omega)) (hR _ _ (by omega) (by omega) (by omega)), h.fa.cong (fun c k a b => hC _ _ (by omega) (by omega)) (hR _ _ (by omega) (by omega) (by omega)) (hR _ _ (by omega) (by omega) (by omega)) (fun c k a b => hR _ _ (by omega) (by omega) (by omega)), h.cs.cong (fun w => hC _ _ (by omega) (by omega)) (fun o i a b => hC _ _ (by omega) (by omega))⟩
    · rw [mI_2, a2.o]
      exact h.sp
    · refine ⟨h.tp.nb, ?_, ?_, fun j hj => ?_⟩
      · rw [hC _ _ (by omega) (by omega)]
        exact h.tp.tc
      · rw [hR _ _ (by omega) (by omega) (by omega)]
        exact h.tp.tr
      · rw [hC _ _ (by omega) (by omega), hR _ _ (by omega) (by omega) (by omega)]
        exact h.tp.by j hj
    · rw [hC _ _ (by omega) (by omega), hC _ _ (by omega) (by omega), hR _ _ (by omega) (by omega) (by omega), hR _ _ (by omega) (by omega) (by omega)]
      exact h.ft
    · rw [hR _ _ (by omega) (by omega) (by omega), hR _ _ (by omega) (by omega) (by omega)]
      exact h.ty
  refine ⟨_, _, _, rfl, ?_, I.i⟩
  rw [W.mi]
