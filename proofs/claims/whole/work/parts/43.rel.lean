/-! the relation between the class's memory and the reference's -/
def opT : List (Nat × Nat) := [(11, 262), (12, 261), (25, 60), (26, 256), (27, 61), (28, 257), (29, 258), (30, 62), (31, 43), (32, 45), (33, 42), (34, 47)]
def Knot (sg nu so va : Int32) (a b : Nat) : Prop := (∃ j, j < 7 ∧ sg = zN (14 + j) ∧ so = zN 1 ∧ va = zN j ∧ b = a + 1) ∨ (∃ v, v ≤ 9999 ∧ sg = zN 21 ∧ nu = zN v ∧ so = zN 0 ∧ va = zN v ∧ b = a + 1) ∨ (sg = zN 13 ∧ so = zN 2 ∧ va = zN 260 ∧ 1 ≤ a ∧ b = a) ∨ (∃ x y, (x, y) ∈ opT ∧ sg = zN x ∧ so = zN 2 ∧ va = zN y ∧ 2 ≤ a ∧ a = b + 1)
def KCode (o : Nat) (mC mR : Mem) (f t : Nat) : Prop := ∃ d : Nat → Nat, d f = 0 ∧ d t = 1 ∧ ∀ i, f ≤ i → i < t → Knot (mC.1 (o + 12) i) (mC.1 (o + 13) i) (mR.1 119 i) (mR.1 120 i) (d i) (d (i + 1))
def OrdR (Z : Nat → Nat) (o : Nat) (mC mR : Mem) : Prop := (o = 7 ∨ o = 25) ∧ (Z 0 ≤ 6 ∧ Z 1 ≤ 6 ∧ Z 2 ≤ 12 ∧ Z 3 ≤ 10 ∧ Z 4 ≤ 8) ∧ (∀ i, i < 5 → mC.1 (o + 1 + 2 * i) 2 = zN (Z i)) ∧ (∀ i, i < 5 → mR.1 101 i = zN (Z i)) ∧ (∀ i k c, i < 5 → k < Z i → c < 3 → mC.1 (o + 2 + 2 * i) (3 * k + c) = mR.1 (102 + 3 * i + c) k) ∧ (∀ k, k < Z 0 → Bd (mR.1 103 k) 0 99 ∧ Bd (mR.1 104 k) 0 9) ∧ (∀ k, k < Z 1 → Bd (mR.1 106 k) 1 99 ∧ Bd (mR.1 107 k) 0 99) ∧ (∀ k, k < Z 2 → ∃ w t, w < Z 0 ∧ t < Z 1 ∧ mR.1 108 k = zN w ∧ mR.1 109 k = zN t) ∧ (∀ k, k < Z 3 → ∃ t, t < Z 1 ∧ mR.1 111 k = zN t ∧ Bd (mR.1 112 k) 1 9) ∧ (∀ k, k < Z 4 → ∃ f t, f < Z 1 ∧ t < Z 1 ∧ f ≠ t ∧ mR.1 114 k = zN f ∧ mR.1 115 k = zN t ∧ Bd (mR.1 116 k) 1 9) ∧ (mC.1 o 6 = mR.1 101 5 ∧ Bd (mR.1 101 5) 0 100) ∧ (mC.1 o 8 = mR.1 101 6 ∧ Bd (mR.1 101 6) 0 99999) ∧ (∀ r, r < 3 → ∃ f t, f ≤ t ∧ t ≤ 64 ∧ mC.1 (o + 14) r = zN f ∧ mR.1 117 r = zN f ∧ mC.1 (o + 15) r = zN t ∧ mR.1 118 r = zN t ∧ (f < t → KCode o mC mR f t)) ∧ (mC.1 (o + 11) 6 = mR.1 101 7)
theorem OrdR.ho {Z : Nat → Nat} {o : Nat} {mC mR : Mem} (h : OrdR Z o mC mR) : o = 7 ∨ o = 25 := h.1
theorem OrdR.zb {Z : Nat → Nat} {o : Nat} {mC mR : Mem} (h : OrdR Z o mC mR) : Z 0 ≤ 6 ∧ Z 1 ≤ 6 ∧ Z 2 ≤ 12 ∧ Z 3 ≤ 10 ∧ Z 4 ≤ 8 := h.2.1
theorem OrdR.sC {Z : Nat → Nat} {o : Nat} {mC mR : Mem} (h : OrdR Z o mC mR) : ∀ i, i < 5 → mC.1 (o + 1 + 2 * i) 2 = zN (Z i) := h.2.2.1
theorem OrdR.sR {Z : Nat → Nat} {o : Nat} {mC mR : Mem} (h : OrdR Z o mC mR) : ∀ i, i < 5 → mR.1 101 i = zN (Z i) := h.2.2.2.1
theorem OrdR.rw {Z : Nat → Nat} {o : Nat} {mC mR : Mem} (h : OrdR Z o mC mR) : ∀ i k c, i < 5 → k < Z i → c < 3 → mC.1 (o + 2 + 2 * i) (3 * k + c) = mR.1 (102 + 3 * i + c) k := h.2.2.2.2.1
theorem OrdR.kb {Z : Nat → Nat} {o : Nat} {mC mR : Mem} (h : OrdR Z o mC mR) : ∀ k, k < Z 0 → Bd (mR.1 103 k) 0 99 ∧ Bd (mR.1 104 k) 0 9 := h.2.2.2.2.2.1
theorem OrdR.tl {Z : Nat → Nat} {o : Nat} {mC mR : Mem} (h : OrdR Z o mC mR) : ∀ k, k < Z 1 → Bd (mR.1 106 k) 1 99 ∧ Bd (mR.1 107 k) 0 99 := h.2.2.2.2.2.2.1
theorem OrdR.st {Z : Nat → Nat} {o : Nat} {mC mR : Mem} (h : OrdR Z o mC mR) : ∀ k, k < Z 2 → ∃ w t, w < Z 0 ∧ t < Z 1 ∧ mR.1 108 k = zN w ∧ mR.1 109 k = zN t := h.2.2.2.2.2.2.2.1
theorem OrdR.ca {Z : Nat → Nat} {o : Nat} {mC mR : Mem} (h : OrdR Z o mC mR) : ∀ k, k < Z 3 → ∃ t, t < Z 1 ∧ mR.1 111 k = zN t ∧ Bd (mR.1 112 k) 1 9 := h.2.2.2.2.2.2.2.2.1
theorem OrdR.pi {Z : Nat → Nat} {o : Nat} {mC mR : Mem} (h : OrdR Z o mC mR) : ∀ k, k < Z 4 → ∃ f t, f < Z 1 ∧ t < Z 1 ∧ f ≠ t ∧ mR.1 114 k = zN f ∧ mR.1 115 k = zN t ∧ Bd (mR.1 116 k) 1 9 := h.2.2.2.2.2.2.2.2.2.1
theorem OrdR.fl {Z : Nat → Nat} {o : Nat} {mC mR : Mem} (h : OrdR Z o mC mR) : mC.1 o 6 = mR.1 101 5 ∧ Bd (mR.1 101 5) 0 100 := h.2.2.2.2.2.2.2.2.2.2.1
theorem OrdR.sd {Z : Nat → Nat} {o : Nat} {mC mR : Mem} (h : OrdR Z o mC mR) : mC.1 o 8 = mR.1 101 6 ∧ Bd (mR.1 101 6) 0 99999 := h.2.2.2.2.2.2.2.2.2.2.2.1
theorem OrdR.lw {Z : Nat → Nat} {o : Nat} {mC mR : Mem} (h : OrdR Z o mC mR) : ∀ r, r < 3 → ∃ f t, f ≤ t ∧ t ≤ 64 ∧ mC.1 (o + 14) r = zN f ∧ mR.1 117 r = zN f ∧ mC.1 (o + 15) r = zN t ∧ mR.1 118 r = zN t ∧ (f < t → KCode o mC mR f t) := h.2.2.2.2.2.2.2.2.2.2.2.2.1
theorem OrdR.kn {Z : Nat → Nat} {o : Nat} {mC mR : Mem} (h : OrdR Z o mC mR) : mC.1 (o + 11) 6 = mR.1 101 7 := h.2.2.2.2.2.2.2.2.2.2.2.2.2
theorem KCode.cong {o : Nat} {mC mR mC' mR' : Mem} {f t : Nat} (ho : o ≤ 25) (hC : ∀ c k, c < 43 → mC'.1 c k = mC.1 c k) (hR : ∀ c k, 100 ≤ c → c ≤ 120 → mR'.1 c k = mR.1 c k) (h : KCode o mC mR f t) : KCode o mC' mR' f t := by
  obtain ⟨d, h1, h2, h3⟩ := h
  refine ⟨d, h1, h2, fun i a b => ?_⟩
  rw [hC _ _ (by omega), hC _ _ (by omega), hR _ _ (by omega) (by omega), hR _ _ (by omega) (by omega)]
  exact h3 i a b
theorem OrdR.cong {Z : Nat → Nat} {o : Nat} {mC mR mC' mR' : Mem} (h : OrdR Z o mC mR) (hC : ∀ c k, c < 43 → mC'.1 c k = mC.1 c k) (hR : ∀ c k, 100 ≤ c → c ≤ 120 → mR'.1 c k = mR.1 c k) : OrdR Z o mC' mR' := by
  have ho : o ≤ 25 := by have := h.ho; omega
  refine ⟨h.ho, h.zb, fun i hi => ?_, fun i hi => ?_, fun i k c hi hk hc => ?_, fun k hk => ?_, fun k hk => ?_, fun k hk => ?_, fun k hk => ?_, fun k hk => ?_, ?_, ?_, fun r hr => ?_, ?_⟩
  · rw [hC _ _ (by omega)]
    exact h.sC i hi
  · rw [hR _ _ (by omega) (by omega)]
    exact h.sR i hi
  · rw [hC _ _ (by omega), hR _ _ (by omega) (by omega)]
    exact h.rw i k c hi hk hc
  · rw [hR _ _ (by omega) (by omega), hR _ _ (by omega) (by omega)]
    exact h.kb k hk
  · rw [hR _ _ (by omega) (by omega), hR _ _ (by omega) (by omega)]
    exact h.tl k hk
  · rw [hR _ _ (by omega) (by omega), hR _ _ (by omega) (by omega)]
    exact h.st k hk
  · rw [hR _ _ (by omega) (by omega), hR _ _ (by omega) (by omega)]
    exact h.ca k hk
  · rw [hR _ _ (by omega) (by omega), hR _ _ (by omega) (by omega), hR _ _ (by omega) (by omega)]
    exact h.pi k hk
  · rw [hC _ _ (by omega), hR _ _ (by omega) (by omega)]
    exact h.fl
  · rw [hC _ _ (by omega), hR _ _ (by omega) (by omega)]
    exact h.sd
  · obtain ⟨f, t, a1, a2, a3, a4, a5, a6, a7⟩ := h.lw r hr
    refine ⟨f, t, a1, a2, ?_, ?_, ?_, ?_, fun q => (a7 q).cong ho hC hR⟩
    · rw [hC _ _ (by omega)]
      exact a3
    · rw [hR _ _ (by omega) (by omega)]
      exact a4
    · rw [hC _ _ (by omega)]
      exact a5
    · rw [hR _ _ (by omega) (by omega)]
      exact a6
  · rw [hC _ _ (by omega), hR _ _ (by omega) (by omega)]
    exact h.kn
def pc (j : Nat) : Nat := [1, 2, 4, 8, 6, 7, 9].getD j 0
def pr (j : Nat) : Nat := [126, 127, 128, 130, 131, 132, 133].getD j 0
theorem pc_inj : ∀ i, i < 7 → ∀ j, j < 7 → pc i = pc j → i = j := by decide
theorem pr_inj : ∀ i, i < 7 → ∀ j, j < 7 → pr i = pr j → i = j := by decide
theorem pc_in : ∀ j, j < 7 → 1 ≤ pc j ∧ pc j ≤ 9 ∧ pc j ≠ 3 ∧ pc j ≠ 5 := by decide
theorem pr_in : ∀ j, j < 7 → 126 ≤ pr j ∧ pr j ≤ 133 ∧ pr j ≠ 129 := by decide
theorem pr_0 : ∀ j, j < 7 → (pr j = 126 → j = 0) ∧ (pr j = 127 → j = 1) ∧ (pr j = 128 → j = 2) := by decide
def BathR (Z : Nat → Nat) (b s : Nat) (mC mR : Mem) : Prop := (b = 43 ∨ b = 53 ∨ b = 63 ∨ b = 84) ∧ (s ≤ 22) ∧ (Z 0 ≤ 6 ∧ Z 1 ≤ 6) ∧ (∀ j k, j < 7 → k < 6 → mC.1 (b + pc j) k = mR.1 (pr j) (6 * s + k)) ∧ (∀ k, k < Z 1 → Bd (mR.1 126 (6 * s + k)) 1 999) ∧ (∀ k, k < Z 1 → Bd (mR.1 127 (6 * s + k)) 0 990) ∧ (∀ k, k < Z 0 → Bd (mR.1 128 (6 * s + k)) 0 99) ∧ (∀ k, k < 6 → (mC.1 (b + 5) k = -2 ∧ mR.1 129 (6 * s + k) = -1) ∨ (k < Z 0 ∧ ∃ t, t < Z 1 ∧ mC.1 (b + 5) k = zN t ∧ mR.1 129 (6 * s + k) = zN t ∧ mC.1 (b + 3) t = zN k)) ∧ (∀ t, t < 6 → mC.1 (b + 3) t = -2 ∨ ∃ k, k < Z 0 ∧ mC.1 (b + 3) t = zN k ∧ mC.1 (b + 5) k = zN t) ∧ (mC.1 b 9 = mR.1 123 s) ∧ (mC.1 b 10 = mR.1 125 s) ∧ (∃ v, v < 2147483648 ∧ mC.2.1 b 11 = zJ v ∧ mR.1 124 s = zN v)
theorem BathR.hb {Z : Nat → Nat} {b s : Nat} {mC mR : Mem} (h : BathR Z b s mC mR) : b = 43 ∨ b = 53 ∨ b = 63 ∨ b = 84 := h.1
theorem BathR.hs {Z : Nat → Nat} {b s : Nat} {mC mR : Mem} (h : BathR Z b s mC mR) : s ≤ 22 := h.2.1
theorem BathR.zz {Z : Nat → Nat} {b s : Nat} {mC mR : Mem} (h : BathR Z b s mC mR) : Z 0 ≤ 6 ∧ Z 1 ≤ 6 := h.2.2.1
theorem BathR.eq {Z : Nat → Nat} {b s : Nat} {mC mR : Mem} (h : BathR Z b s mC mR) : ∀ j k, j < 7 → k < 6 → mC.1 (b + pc j) k = mR.1 (pr j) (6 * s + k) := h.2.2.2.1
theorem BathR.li {Z : Nat → Nat} {b s : Nat} {mC mR : Mem} (h : BathR Z b s mC mR) : ∀ k, k < Z 1 → Bd (mR.1 126 (6 * s + k)) 1 999 := h.2.2.2.2.1
theorem BathR.he {Z : Nat → Nat} {b s : Nat} {mC mR : Mem} (h : BathR Z b s mC mR) : ∀ k, k < Z 1 → Bd (mR.1 127 (6 * s + k)) 0 990 := h.2.2.2.2.2.1
theorem BathR.be {Z : Nat → Nat} {b s : Nat} {mC mR : Mem} (h : BathR Z b s mC mR) : ∀ k, k < Z 0 → Bd (mR.1 128 (6 * s + k)) 0 99 := h.2.2.2.2.2.2.1
theorem BathR.pl {Z : Nat → Nat} {b s : Nat} {mC mR : Mem} (h : BathR Z b s mC mR) : ∀ k, k < 6 → (mC.1 (b + 5) k = -2 ∧ mR.1 129 (6 * s + k) = -1) ∨ (k < Z 0 ∧ ∃ t, t < Z 1 ∧ mC.1 (b + 5) k = zN t ∧ mR.1 129 (6 * s + k) = zN t ∧ mC.1 (b + 3) t = zN k) := h.2.2.2.2.2.2.2.1
theorem BathR.ho {Z : Nat → Nat} {b s : Nat} {mC mR : Mem} (h : BathR Z b s mC mR) : ∀ t, t < 6 → mC.1 (b + 3) t = -2 ∨ ∃ k, k < Z 0 ∧ mC.1 (b + 3) t = zN k ∧ mC.1 (b + 5) k = zN t := h.2.2.2.2.2.2.2.2.1
theorem BathR.mi {Z : Nat → Nat} {b s : Nat} {mC mR : Mem} (h : BathR Z b s mC mR) : mC.1 b 9 = mR.1 123 s := h.2.2.2.2.2.2.2.2.2.1
theorem BathR.so {Z : Nat → Nat} {b s : Nat} {mC mR : Mem} (h : BathR Z b s mC mR) : mC.1 b 10 = mR.1 125 s := h.2.2.2.2.2.2.2.2.2.2.1
theorem BathR.nu {Z : Nat → Nat} {b s : Nat} {mC mR : Mem} (h : BathR Z b s mC mR) : ∃ v, v < 2147483648 ∧ mC.2.1 b 11 = zJ v ∧ mR.1 124 s = zN v := h.2.2.2.2.2.2.2.2.2.2.2
theorem BathR.cong {Z : Nat → Nat} {b s : Nat} {mC mR mC' mR' : Mem} (h : BathR Z b s mC mR) (hC : ∀ c k, b ≤ c → c ≤ b + 9 → mC'.1 c k = mC.1 c k) (hJ : mC'.2.1 b 11 = mC.2.1 b 11) (hR : ∀ c, 123 ≤ c → c ≤ 125 → mR'.1 c s = mR.1 c s) (hQ : ∀ c k, 126 ≤ c → c ≤ 133 → k < 6 → mR'.1 c (6 * s + k) = mR.1 c (6 * s + k)) : BathR Z b s mC' mR' := by
  have hz := h.zz
  refine ⟨h.hb, h.hs, h.zz, fun j k hj hk => ?_, fun k hk => ?_, fun k hk => ?_, fun k hk => ?_, fun k hk => ?_, fun t ht => ?_, ?_, ?_, ?_⟩
  · have h1 := pc_in j hj
    have h2 := pr_in j hj
    rw [hC _ _ (by omega) (by omega), hQ _ _ (by omega) (by omega) hk]
    exact h.eq j k hj hk
  · rw [hQ _ _ (by omega) (by omega) (by omega)]
    exact h.li k hk
  · rw [hQ _ _ (by omega) (by omega) (by omega)]
    exact h.he k hk
  · rw [hQ _ _ (by omega) (by omega) (by omega)]
    exact h.be k hk
  · rw [hC _ _ (by omega) (by omega), hQ _ _ (by omega) (by omega) hk]
    rcases h.pl k hk with q | ⟨q, t, q1, q2, q3, q4⟩
    · exact Or.inl q
    · exact Or.inr ⟨q, t, q1, q2, q3, by rw [hC _ _ (by omega) (by omega)]; exact q4⟩
  · rw [hC _ _ (by omega) (by omega)]
    rcases h.ho t ht with q | ⟨k, q1, q2, q3⟩
    · exact Or.inl q
    · exact Or.inr ⟨k, q1, q2, by rw [hC _ _ (by omega) (by omega)]; exact q3⟩
  · rw [hC _ _ (by omega) (by omega), hR _ (by omega) (by omega)]
    exact h.mi
  · rw [hC _ _ (by omega) (by omega), hR _ (by omega) (by omega)]
    exact h.so
  · rw [hJ, hR _ (by omega) (by omega)]
    exact h.nu
theorem BathR.up {Z : Nat → Nat} {b s : Nat} {mC mR : Mem} (h : BathR Z b s mC mR) {j k : Nat} (hj : j < 7) (hk : k < 6) (v : Int32) (h0 : j = 0 → k < Z 1 → Bd v 1 999) (h1 : j = 1 → k < Z 1 → Bd v 0 990) (h2 : j = 2 → k < Z 0 → Bd v 0 99) : BathR Z b s (mI mC (b + pc j) k v) (mI mR (pr j) (6 * s + k) v) := by
  have hz := h.zz
  have p1 := pc_in j hj
  have p2 := pr_in j hj
  have p3 := pr_0 j hj
  refine ⟨h.hb, h.hs, h.zz, fun j' k' hj' hk' => ?_, fun k' hk' => ?_, fun k' hk' => ?_, fun k' hk' => ?_, fun k' hk' => ?_, fun t ht => ?_, ?_, ?_, ?_⟩
  · have p1' := pc_in j' hj'
    by_cases e : j' = j ∧ k' = k
    · obtain ⟨rfl, rfl⟩ := e
      rw [mI_s ⟨rfl, rfl⟩, mI_s ⟨rfl, rfl⟩]
    · rw [mI_n, mI_n]
      · exact h.eq j' k' hj' hk'
      · rcases Nat.decEq j' j with q | q
        · exact Or.inl (fun z => q (pr_inj j' hj' j hj z))
        · exact Or.inr (fun z => e ⟨q, by omega⟩)
      · rcases Nat.decEq j' j with q | q
        · exact Or.inl (fun z => q (pc_inj j' hj' j hj (by omega)))
        · exact Or.inr (fun z => e ⟨q, z⟩)
  · rw [mI_at]
    split
    · rename_i q
      exact h0 (p3.1 q.1.symm) (by omega)
    · exact h.li k' hk'
  · rw [mI_at]
    split
    · rename_i q
      exact h1 (p3.2.1 q.1.symm) (by omega)
    · exact h.he k' hk'
  · rw [mI_at]
    split
    · rename_i q
      exact h2 (p3.2.2 q.1.symm) (by omega)
    · exact h.be k' hk'
  · rw [mI_n (by omega), mI_n (by omega)]
    rcases h.pl k' hk' with q | ⟨q, t, q1, q2, q3, q4⟩
    · exact Or.inl q
    · exact Or.inr ⟨q, t, q1, q2, q3, by rw [mI_n (by omega)]; exact q4⟩
  · rw [mI_n (by omega)]
    rcases h.ho t ht with q | ⟨k, q1, q2, q3⟩
    · exact Or.inl q
    · exact Or.inr ⟨k, q1, q2, by rw [mI_n (by omega)]; exact q3⟩
  · rw [mI_n (by omega), mI_n (by omega)]
    exact h.mi
  · rw [mI_n (by omega), mI_n (by omega)]
    exact h.so
  · rw [mI_n (by omega)]
    exact h.nu
/-- he is out of his tub -/
theorem BathR.out1 {Z : Nat → Nat} {b s : Nat} {mC mR : Mem} (h : BathR Z b s mC mR) {k : Nat} (hk : k < 6) (e : mC.1 (b + 5) k = -2) : BathR Z b s (mI mC (b + 5) k (-2)) (mI mR 129 (6 * s + k) (-1)) := by
  refine h.cong (fun c k' _ _ => ?_) rfl (fun c _ _ => ?_) (fun c k' _ _ _ => ?_)
  · rw [mI_at]
    split
    · rename_i q
      rw [q.1, q.2, e]
    · rfl
  · rw [mI_n (by omega)]
  · rw [mI_at]
    split
    · rename_i q
      rw [q.1, q.2]
      rcases h.pl k hk with q | ⟨q, t, q1, q2, q3, q4⟩
      · exact q.2.symm
      · rw [q2] at e
        rw [zN_m2 (by have := h.zz; omega)] at e
        exact e.elim
    · rfl
theorem BathR.out2 {Z : Nat → Nat} {b s : Nat} {mC mR : Mem} (h : BathR Z b s mC mR) {k t : Nat} (hk : k < 6) (ht : t < 6) (e : mC.1 (b + 5) k = zN t) : BathR Z b s (mI (mI mC (b + 3) t (-2)) (b + 5) k (-2)) (mI mR 129 (6 * s + k) (-1)) := by
  have hz := h.zz
  refine ⟨h.hb, h.hs, h.zz, fun j' k' hj' hk' => ?_, fun k' hk' => ?_, fun k' hk' => ?_, fun k' hk' => ?_, fun k' hk' => ?_, fun t' ht' => ?_, ?_, ?_, ?_⟩
  · have p1' := pc_in j' hj'
    have p2' := pr_in j' hj'
    rw [mI_n (by omega), mI_n (by omega), mI_n (by omega)]
    exact h.eq j' k' hj' hk'
  · rw [mI_n (by omega)]
    exact h.li k' hk'
  · rw [mI_n (by omega)]
    exact h.he k' hk'
  · rw [mI_n (by omega)]
    exact h.be k' hk'
  · by_cases q : k' = k
    · rw [q]
      exact Or.inl ⟨mI_s ⟨rfl, rfl⟩, mI_s ⟨rfl, rfl⟩⟩
    · rw [mI_n (by omega), mI_n (by omega), mI_n (by omega)]
      rcases h.pl k' hk' with z | ⟨z, t', q1, q2, q3, q4⟩
      · exact Or.inl z
      · refine Or.inr ⟨z, t', q1, q2, q3, ?_⟩
        rw [mI_n (by omega)]
        have ne : t' ≠ t := by
          intro tt
          rcases h.pl k hk with w | ⟨w, t2, w1, w2, w3, w4⟩
          · rw [w.1] at e
            have e := e.symm
            rw [zN_m2 (by omega)] at e
            exact e
          · rw [w2, zN_eq (by omega) (by omega)] at e
            rw [tt, ← e, w4, zN_eq (by omega) (by omega)] at q4
            exact q q4.symm
        rw [mI_n (by omega)]
        exact q4
  · by_cases q : t' = t
    · rw [q, mI_n (by omega), mI_s ⟨rfl, rfl⟩]
      exact Or.inl rfl
    · rw [mI_n (by omega), mI_n (by omega)]
      rcases h.ho t' ht' with z | ⟨k', q1, q2, q3⟩
      · exact Or.inl z
      · refine Or.inr ⟨k', q1, q2, ?_⟩
        have ne : k' ≠ k := by
          intro kk
          rw [kk, e, zN_eq (by omega) (by omega)] at q3
          exact q q3.symm
        rw [mI_n (by omega), mI_n (by omega)]
        exact q3
  · rw [mI_n (by omega), mI_n (by omega), mI_n (by omega)]
    exact h.mi
  · rw [mI_n (by omega), mI_n (by omega), mI_n (by omega)]
    exact h.so
  · rw [mI_n (by omega)]
    exact h.nu
theorem BathR.inn {Z : Nat → Nat} {b s : Nat} {mC mR : Mem} (h : BathR Z b s mC mR) {k t : Nat} (hk : k < Z 0) (ht : t < Z 1) (e : mC.1 (b + 5) k = -2) (f : mC.1 (b + 3) t = -2) : BathR Z b s (mI (mI mC (b + 3) t (zN k)) (b + 5) k (zN t)) (mI mR 129 (6 * s + k) (zN t)) := by
  have hz := h.zz
  refine ⟨h.hb, h.hs, h.zz, fun j' k' hj' hk' => ?_, fun k' hk' => ?_, fun k' hk' => ?_, fun k' hk' => ?_, fun k' hk' => ?_, fun t' ht' => ?_, ?_, ?_, ?_⟩
  · have p1' := pc_in j' hj'
    have p2' := pr_in j' hj'
    rw [mI_n (by omega), mI_n (by omega), mI_n (by omega)]
    exact h.eq j' k' hj' hk'
  · rw [mI_n (by omega)]
    exact h.li k' hk'
  · rw [mI_n (by omega)]
    exact h.he k' hk'
  · rw [mI_n (by omega)]
    exact h.be k' hk'
  · by_cases q : k' = k
    · rw [q]
      exact Or.inr ⟨hk, t, ht, mI_s ⟨rfl, rfl⟩, mI_s ⟨rfl, rfl⟩, by rw [mI_n (by omega), mI_s ⟨rfl, rfl⟩]⟩
    · rw [mI_n (by omega), mI_n (by omega), mI_n (by omega)]
      rcases h.pl k' hk' with z | ⟨z, t', q1, q2, q3, q4⟩
      · exact Or.inl z
      · refine Or.inr ⟨z, t', q1, q2, q3, ?_⟩
        have ne : t' ≠ t := by
          intro tt
          rw [tt, f] at q4
          have q4 := q4.symm
          rw [zN_m2 (by omega)] at q4
          exact q4
        rw [mI_n (by omega), mI_n (by omega)]
        exact q4
  · by_cases q : t' = t
    · rw [q]
      refine Or.inr ⟨k, hk, ?_, mI_s ⟨rfl, rfl⟩⟩
      rw [mI_n (by omega), mI_s ⟨rfl, rfl⟩]
    · rw [mI_n (by omega), mI_n (by omega)]
      rcases h.ho t' ht' with z | ⟨k', q1, q2, q3⟩
      · exact Or.inl z
      · refine Or.inr ⟨k', q1, q2, ?_⟩
        have ne : k' ≠ k := by
          intro kk
          rw [kk, e] at q3
          have q3 := q3.symm
          rw [zN_m2 (by omega)] at q3
          exact q3
        rw [mI_n (by omega), mI_n (by omega)]
        exact q3
  · rw [mI_n (by omega), mI_n (by omega), mI_n (by omega)]
    exact h.mi
  · rw [mI_n (by omega), mI_n (by omega), mI_n (by omega)]
    exact h.so
  · rw [mI_n (by omega)]
    exact h.nu
theorem BathR.upM {Z : Nat → Nat} {b s : Nat} {mC mR : Mem} (h : BathR Z b s mC mR) (v : Int32) : BathR Z b s (mI mC b 9 v) (mI mR 123 s v) := by
  have hz := h.zz
  refine ⟨h.hb, h.hs, h.zz, fun j' k' hj' hk' => ?_, fun k' hk' => ?_, fun k' hk' => ?_, fun k' hk' => ?_, fun k' hk' => ?_, fun t' ht' => ?_, ?_, ?_, ?_⟩
  · have p1' := pc_in j' hj'
    have p2' := pr_in j' hj'
    rw [mI_n (by omega), mI_n (by omega)]
    exact h.eq j' k' hj' hk'
  · rw [mI_n (by omega)]
    exact h.li k' hk'
  · rw [mI_n (by omega)]
    exact h.he k' hk'
  · rw [mI_n (by omega)]
    exact h.be k' hk'
  · rw [mI_n (by omega), mI_n (by omega)]
    rcases h.pl k' hk' with q | ⟨q, t, q1, q2, q3, q4⟩
    · exact Or.inl q
    · exact Or.inr ⟨q, t, q1, q2, q3, by rw [mI_n (by omega)]; exact q4⟩
  · rw [mI_n (by omega)]
    rcases h.ho t' ht' with q | ⟨k, q1, q2, q3⟩
    · exact Or.inl q
    · exact Or.inr ⟨k, q1, q2, by rw [mI_n (by omega)]; exact q3⟩
  · rw [mI_s ⟨rfl, rfl⟩, mI_s ⟨rfl, rfl⟩]
  · rw [mI_n (by omega), mI_n (by omega)]
    exact h.so
  · rw [mI_n (by omega)]
    exact h.nu
theorem BathR.upS {Z : Nat → Nat} {b s : Nat} {mC mR : Mem} (h : BathR Z b s mC mR) (v : Int32) : BathR Z b s (mI mC b 10 v) (mI mR 125 s v) := by
  have hz := h.zz
  refine ⟨h.hb, h.hs, h.zz, fun j' k' hj' hk' => ?_, fun k' hk' => ?_, fun k' hk' => ?_, fun k' hk' => ?_, fun k' hk' => ?_, fun t' ht' => ?_, ?_, ?_, ?_⟩
  · have p1' := pc_in j' hj'
    have p2' := pr_in j' hj'
    rw [mI_n (by omega), mI_n (by omega)]
    exact h.eq j' k' hj' hk'
  · rw [mI_n (by omega)]
    exact h.li k' hk'
  · rw [mI_n (by omega)]
    exact h.he k' hk'
  · rw [mI_n (by omega)]
    exact h.be k' hk'
  · rw [mI_n (by omega), mI_n (by omega)]
    rcases h.pl k' hk' with q | ⟨q, t, q1, q2, q3, q4⟩
    · exact Or.inl q
    · exact Or.inr ⟨q, t, q1, q2, q3, by rw [mI_n (by omega)]; exact q4⟩
  · rw [mI_n (by omega)]
    rcases h.ho t' ht' with q | ⟨k, q1, q2, q3⟩
    · exact Or.inl q
    · exact Or.inr ⟨k, q1, q2, by rw [mI_n (by omega)]; exact q3⟩
  · rw [mI_n (by omega), mI_n (by omega)]
    exact h.mi
  · rw [mI_s ⟨rfl, rfl⟩, mI_s ⟨rfl, rfl⟩]
  · rw [mI_n (by omega)]
    exact h.nu
theorem BathR.upN {Z : Nat → Nat} {b s : Nat} {mC mR : Mem} (h : BathR Z b s mC mR) {v : Nat} (hv : v < 2147483648) : BathR Z b s (mJ mC b 11 (zJ v)) (mI mR 124 s (zN v)) := by
  have hz := h.zz
  refine ⟨h.hb, h.hs, h.zz, fun j' k' hj' hk' => ?_, fun k' hk' => ?_, fun k' hk' => ?_, fun k' hk' => ?_, fun k' hk' => ?_, fun t' ht' => ?_, ?_, ?_, ?_⟩
  · have p1' := pc_in j' hj'
    have p2' := pr_in j' hj'
    rw [mI_n (by omega)]
    exact h.eq j' k' hj' hk'
  · rw [mI_n (by omega)]
    exact h.li k' hk'
  · rw [mI_n (by omega)]
    exact h.he k' hk'
  · rw [mI_n (by omega)]
    exact h.be k' hk'
  · rw [mI_n (by omega)]
    exact h.pl k' hk'
  · exact h.ho t' ht'
  · rw [mI_n (by omega)]
    exact h.mi
  · rw [mI_n (by omega)]
    exact h.so
  · exact ⟨v, hv, mJ_s ⟨rfl, rfl⟩, mI_s ⟨rfl, rfl⟩⟩
/-- what a minute touches -/
def FC (o b : Nat) (m m' : Mem) : Prop := (∀ c k, c < b ∨ b + 9 < c → m'.1 c k = m.1 c k) ∧ (∀ c k, c ≠ o + 16 → c ≠ o + 17 → c ≠ b → m'.2.1 c k = m.2.1 c k) ∧ m'.2.2 = m.2.2
def FR (s : Nat) (m m' : Mem) : Prop := ∀ c k, ¬ (c = 99 ∧ k = 38) → ¬ (123 ≤ c ∧ c ≤ 125 ∧ k = s) → ¬ (126 ≤ c ∧ c ≤ 133 ∧ 6 * s ≤ k ∧ k < 6 * s + 6) → m'.1 c k = m.1 c k
theorem FC.rf {o b : Nat} {m : Mem} : FC o b m m := ⟨fun _ _ _ => rfl, fun _ _ _ _ _ => rfl, rfl⟩
theorem FR.rf {s : Nat} {m : Mem} : FR s m m := fun _ _ _ _ _ => rfl
theorem FC.tr {o b : Nat} {m m' m'' : Mem} (h : FC o b m m') (h' : FC o b m' m'') : FC o b m m'' := ⟨fun c k q => (h'.1 c k q).trans (h.1 c k q), fun c k q1 q2 q3 => (h'.2.1 c k q1 q2 q3).trans (h.2.1 c k q1 q2 q3), h'.2.2.trans h.2.2⟩
theorem FR.tr {s : Nat} {m m' m'' : Mem} (h : FR s m m') (h' : FR s m' m'') : FR s m m'' := fun c k q1 q2 q3 => (h' c k q1 q2 q3).trans (h c k q1 q2 q3)
theorem FC.mI {o b : Nat} {m : Mem} {c k : Nat} {v : Int32} (h : b ≤ c ∧ c ≤ b + 9) : FC o b m (mI m c k v) := ⟨fun c' k' q => mI_n (by omega), fun _ _ _ _ _ => rfl, rfl⟩
theorem FC.mJ {o b : Nat} {m : Mem} {c k : Nat} {v : Int64} (h : c = o + 16 ∨ c = o + 17 ∨ c = b) : FC o b m (mJ m c k v) := ⟨fun c' k' q => rfl, fun _ _ _ _ _ => mJ_n (by omega), rfl⟩
theorem FR.mI {s : Nat} {m : Mem} {c k : Nat} {v : Int32} (h : (c = 99 ∧ k = 38) ∨ (123 ≤ c ∧ c ≤ 125 ∧ k = s) ∨ (126 ≤ c ∧ c ≤ 133 ∧ 6 * s ≤ k ∧ k < 6 * s + 6)) : FR s m (mI m c k v) := fun c' k' q1 q2 q3 => mI_n (by omega)
theorem FR.mJ {s : Nat} {m : Mem} {c k : Nat} {v : Int64} : FR s m (mJ m c k v) := fun c' k' q1 q2 q3 => rfl
theorem OrdR.fr {Z : Nat → Nat} {o b s : Nat} {mC mR mC' mR' : Mem} (h : OrdR Z o mC mR) (hb : 43 ≤ b) (hC : FC o b mC mC') (hR : FR s mR mR') : OrdR Z o mC' mR' := h.cong (fun c k hc => hC.1 c k (by omega)) (fun c k h1 h2 => hR c k (by omega) (by omega) (by omega))
