/-! a text is begun: what is forgotten, what is set -/
theorem fg12 {N l : Nat} (hl : 5 < l) : ∀ rem k n (m : Mem), k + rem = 3 → rem < n → ∃ M, fX3_forget_12 N n l (zN k) m = some M ∧ M.2 = m.2 ∧ ∀ c j, M.1 c j = if (c = l + 3 ∨ c = l + 4) ∧ k ≤ j ∧ j < 3 then 0 else m.1 c j := by
  intro rem
  induction rem with
  | zero =>
    intro k n m hk hn
    obtain ⟨n', rfl, _⟩ := fuel hn
    rw [fX3_forget_12, if_pos (show (2 : Int32) < zN k from by rw [show (2 : Int32) = zN 2 from rfl, zN_lt (by omega) (by omega)]; omega)]
    exact ⟨m, rfl, rfl, fun c j => by rw [if_neg (by omega)]⟩
  | succ rem ih =>
    intro k n m hk hn
    obtain ⟨n', rfl, hn⟩ := fuel hn
    rw [fX3_forget_12, if_neg (show ¬ ((2 : Int32) < zN k) from zlt (a := 2) (by omega) (by omega) (by omega)), g_in (by omega) (by omega), g_in (by omega) (by omega), zN_cl (by omega), zN_s]
    obtain ⟨M, r1, r2, r3⟩ := ih (k + 1) n' (mI (mI m (l + 3) k 0) (l + 4) k 0) (by omega) (by omega)
    refine ⟨M, r1, r2, fun c j => ?_⟩
    rw [r3]
    by_cases w : (c = l + 3 ∨ c = l + 4) ∧ k ≤ j ∧ j < 3
    · rw [if_pos w]
      by_cases y : j = k
      · rw [if_neg (by omega)]
        by_cases z : c = l + 4
        · rw [mI_s (by omega)]
        · rw [mI_n (by omega), mI_s (by omega)]
      · rw [if_pos (by omega)]
    · rw [if_neg w, if_neg (by omega), mI_n (by omega), mI_n (by omega)]
theorem forget_ok {N o : Nat} {m : Mem} (hN : 1000 ≤ N) (ho : 7 ≤ o) : ∃ M, fX6_forget N o m = some M ∧ M.2 = m.2 ∧ (∀ i, i < 5 → M.1 (o + 1 + 2 * i) 2 = 0) ∧ M.1 (o + 11) 6 = 0 ∧ M.1 (o + 11) 7 = 0 ∧ (∀ r, r < 3 → M.1 (o + 14) r = 0 ∧ M.1 (o + 15) r = 0) ∧ M.1 o 6 = 100 ∧ M.1 o 7 = 0 ∧ M.1 o 8 = 0 ∧ M.1 o 9 = 0 ∧ M.1 o 10 = 0 ∧ (∀ c j, ¬ (o ≤ c ∧ c < o + 16 ∧ ¬ (o + 1 ≤ c ∧ c ≤ o + 10 ∧ (c - o) % 2 = 1 ∧ j = 0)) → M.1 c j = m.1 c j) := by
  unfold fX6_forget fX3_forget
  obtain ⟨M, r1, r2, r3⟩ := fg12 (N := N) (l := o + 11) (by omega) 3 0 N (mI (mI (mI (mI (mI (mI (mI m (o + 1) 2 (0 : Int32)) (o + 3) 2 (0 : Int32)) (o + 5) 2 (0 : Int32)) (o + 7) 2 (0 : Int32)) (o + 9) 2 (0 : Int32)) (o + 11) 6 (0 : Int32)) (o + 11) 7 (0 : Int32)) (by omega) (by omega)
  rw [show fX3_forget_12 N N (o + 11) (0 : Int32) _ = _ from r1, b_some]
  refine ⟨_, rfl, r2, fun i hi => ?_, ?_, ?_, fun r hr => ⟨?_, ?_⟩, ?_, ?_, ?_, ?_, ?_, fun c j w => ?_⟩
  · have : i = 0 ∨ i = 1 ∨ i = 2 ∨ i = 3 ∨ i = 4 := by omega
    rw [mI_n (by omega), mI_n (by omega), mI_n (by omega), mI_n (by omega), mI_n (by omega), r3, if_neg (by omega), mI_n (by omega), mI_n (by omega)]
    rcases this with rfl | rfl | rfl | rfl | rfl
    · rw [mI_n (by omega), mI_n (by omega), mI_n (by omega), mI_n (by omega), mI_s (by omega)]
    · rw [mI_n (by omega), mI_n (by omega), mI_n (by omega), mI_s (by omega)]
    · rw [mI_n (by omega), mI_n (by omega), mI_s (by omega)]
    · rw [mI_n (by omega), mI_s (by omega)]
    · rw [mI_s (by omega)]
  · rw [mI_n (by omega), mI_n (by omega), mI_n (by omega), mI_n (by omega), mI_n (by omega), r3, if_neg (by omega), mI_n (by omega), mI_s (by omega)]
  · rw [mI_n (by omega), mI_n (by omega), mI_n (by omega), mI_n (by omega), mI_n (by omega), r3, if_neg (by omega), mI_s (by omega)]
  · rw [mI_n (by omega), mI_n (by omega), mI_n (by omega), mI_n (by omega), mI_n (by omega), r3, if_pos (by omega)]
  · rw [mI_n (by omega), mI_n (by omega), mI_n (by omega), mI_n (by omega), mI_n (by omega), r3, if_pos (by omega)]
  · rw [mI_n (by omega), mI_n (by omega), mI_n (by omega), mI_n (by omega), mI_s (by omega)]
  · rw [mI_n (by omega), mI_n (by omega), mI_n (by omega), mI_s (by omega)]
  · rw [mI_n (by omega), mI_n (by omega), mI_s (by omega)]
  · rw [mI_n (by omega), mI_s (by omega)]
  · rw [mI_s (by omega)]
  · rw [mI_n (by omega), mI_n (by omega), mI_n (by omega), mI_n (by omega), mI_n (by omega), r3, if_neg (by omega), mI_n (by omega), mI_n (by omega), mI_n (by omega), mI_n (by omega), mI_n (by omega), mI_n (by omega), mI_n (by omega)]
theorem t47 {N : Nat} {K : Mem → Option (Int32 × Mem)} : ∀ rem k n (m : Mem), k + rem = 8 → rem < n → ∃ M, fX12_text_47 N K n (zN k) m = K M ∧ ∀ c j, M.1 c j = if c = 101 ∧ 8 + k ≤ j ∧ j < 16 then (if j = 13 then 100 else 0) else m.1 c j := by
  intro rem
  induction rem with
  | zero =>
    intro k n m hk hn
    obtain ⟨n', rfl, _⟩ := fuel hn
    rw [fX12_text_47, if_pos (show (8 : Int32) ≤ zN k from zle' (a := 8) (by omega) (by omega) (by omega))]
    exact ⟨m, rfl, fun c j => by rw [if_neg (by omega)]⟩
  | succ rem ih =>
    intro k n m hk hn
    obtain ⟨n', rfl, hn⟩ := fuel hn
    have S : ∀ y : Int32, fX12_text_66 N (fun x2 m => fX12_text_47 N K n' x2 m) (zN k) y (zN k) m = fX12_text_47 N K n' (zN (k + 1)) (mI m 101 (8 + k) y) := by
      intro y
      unfold fX12_text_66
      rw [rd_ok (by omega), b_some, zN_s]
    rw [fX12_text_47, if_neg (show ¬ ((8 : Int32) ≤ zN k) from zle (a := 8) (by omega) (by omega) (by omega)), S, S]
    by_cases q : k = 5
    · rw [if_pos (show zN k = (5 : Int32) from by rw [q]; rfl)]
      obtain ⟨M, r1, r2⟩ := ih (k + 1) n' (mI m 101 (8 + k) (100 : Int32)) (by omega) (by omega)
      refine ⟨M, r1, fun c j => ?_⟩
      rw [r2]
      by_cases w : c = 101 ∧ 8 + k ≤ j ∧ j < 16
      · rw [if_pos w]
        by_cases y : j = 8 + k
        · rw [if_neg (by omega), mI_s (by omega), if_pos (by omega)]
        · rw [if_pos (by omega)]
      · rw [if_neg w, if_neg (by omega), mI_n (by omega)]
    · rw [if_neg (show ¬ (zN k = (5 : Int32)) from zne (c := 5) (by omega) (by omega) q)]
      obtain ⟨M, r1, r2⟩ := ih (k + 1) n' (mI m 101 (8 + k) (0 : Int32)) (by omega) (by omega)
      refine ⟨M, r1, fun c j => ?_⟩
      rw [r2]
      by_cases w : c = 101 ∧ 8 + k ≤ j ∧ j < 16
      · rw [if_pos w]
        by_cases y : j = 8 + k
        · rw [if_neg (by omega), mI_s (by omega), if_neg (by omega)]
        · rw [if_pos (by omega)]
      · rw [if_neg w, if_neg (by omega), mI_n (by omega)]
theorem t77 {N : Nat} {K : Mem → Option (Int32 × Mem)} : ∀ rem k n (m : Mem), k + rem = 6 → rem < n → ∃ M, fX12_text_77 N K n (zN k) m = K M ∧ ∀ c j, M.1 c j = if (c = 117 ∨ c = 118) ∧ k ≤ j ∧ j < 6 then 0 else m.1 c j := by
  intro rem
  induction rem with
  | zero =>
    intro k n m hk hn
    obtain ⟨n', rfl, _⟩ := fuel hn
    rw [fX12_text_77, if_pos (show (6 : Int32) ≤ zN k from zle' (a := 6) (by omega) (by omega) (by omega))]
    exact ⟨m, rfl, fun c j => by rw [if_neg (by omega)]⟩
  | succ rem ih =>
    intro k n m hk hn
    obtain ⟨n', rfl, hn⟩ := fuel hn
    rw [fX12_text_77, if_neg (show ¬ ((6 : Int32) ≤ zN k) from zle (a := 6) (by omega) (by omega) (by omega)), g_in (by omega) (by omega), g_in (by omega) (by omega), zN_cl (by omega), zN_s]
    obtain ⟨M, r1, r2⟩ := ih (k + 1) n' (mI (mI m 117 k 0) 118 k 0) (by omega) (by omega)
    refine ⟨M, r1, fun c j => ?_⟩
    rw [r2]
    by_cases w : (c = 117 ∨ c = 118) ∧ k ≤ j ∧ j < 6
    · rw [if_pos w]
      by_cases y : j = k
      · rw [if_neg (by omega)]
        by_cases z : c = 118
        · rw [mI_s (by omega)]
        · rw [mI_n (by omega), mI_s (by omega)]
      · rw [if_pos (by omega)]
    · rw [if_neg w, if_neg (by omega), mI_n (by omega), mI_n (by omega)]
theorem tbt0 : ∀ j, j < 19 → tbt (0 : Int32) j = false := by decide
/-- both sides ahead of the first line -/
theorem text_start {Z : Nat → Nat} {N o nt nu nf n : Nat} {A B : Mem} (hN : 1000 ≤ N) (h : InvZ Z o nt nu nf A B) (hn : n ≤ nt) : ∃ bt A1 B1 p pl, fX8_readAll N (zN n) (32 - o) (mI A 0 1 (0 : Int32)) = fX8_readAll_24 N N (zN n) (32 - o) (zN 0) A1 ∧ fX12_text_47 N (fX12_text_75 N) N (0 : Int32) (mI (mI (mI (mI (mI B 99 25 (zN n)) 99 2 (0 : Int32)) 99 26 (0 : Int32)) 99 30 (0 : Int32)) 99 31 (-1 : Int32)) = fX12_text_127 N (fX12_text_149 N) N B1 ∧ LI (fun _ => 0) (32 - o) n bt p pl 0 A1 B1 ∧ A1.1 (32 - o) 10 = B1.1 99 24 ∧ (A1.1 5 4 = -1 ∨ 0 < p) ∧ (∀ c j, ¬ (c = 0 ∧ j = 1) → ¬ (2 ≤ c ∧ c ≤ 5) → ¬ (32 - o ≤ c ∧ c < 32 - o + 16) → A1.1 c j = A.1 c j) ∧ (∀ i, i < 5 → A1.1 (32 - o + 1 + 2 * i) 0 = A.1 (32 - o + 1 + 2 * i) 0) ∧ A1.2 = A.2 ∧ A1.1 0 1 = 0 ∧ (∀ c j, ¬ (c = 99 ∧ (j = 2 ∨ (23 ≤ j ∧ j ≤ 35 ∧ j ≠ 32 ∧ j ≠ 33))) → ¬ (101 ≤ c ∧ c ≤ 120 ∧ hf c ≤ j) → B1.1 c j = B.1 c j) ∧ B1.1 99 2 = 0 := by
  have ho := h.od.ho
  have hq : 32 - o = 7 ∨ 32 - o = 25 := by omega
  have hb := h.tp.nb
  generalize eo : 32 - o = q at hq
  have q7 : 7 ≤ q ∧ q ≤ 25 := by omega
  -- the class
  obtain ⟨F, f1, f2, f3, f4, f5, f6, f7, f8, f9, f10, f11, f12⟩ := forget_ok (N := N) (o := q) (m := mI (mI (mI A 0 1 (0 : Int32)) 2 7 (0 : Int32)) 2 8 (-1 : Int32)) hN (by omega)
  -- the reference
  obtain ⟨G, g1, g2⟩ := t47 (N := N) (K := fX12_text_75 N) 8 0 N (mI (mI (mI (mI (mI B 99 25 (zN n)) 99 2 (0 : Int32)) 99 26 (0 : Int32)) 99 30 (0 : Int32)) 99 31 (-1 : Int32)) (by omega) (by omega)
  obtain ⟨H, h1, h2⟩ := t77 (N := N) (K := fX12_text_103 N) 3 3 N G (by omega) (by omega)
  have hbt : ∀ j, j < n → ∃ v, v < 256 ∧ B.1 100 j = zN v ∧ A.1 1 j &&& (255 : Int32) = zN v := fun j hj => h.tp.by j (by omega)
  have hA : ∀ c j, ¬ (c = 0 ∧ j = 1) → ¬ (c = 2 ∧ (j = 7 ∨ j = 8)) → ¬ (q ≤ c ∧ c < q + 16 ∧ ¬ (q + 1 ≤ c ∧ c ≤ q + 10 ∧ (c - q) % 2 = 1 ∧ j = 0)) → F.1 c j = A.1 c j := fun c j w1 w2 w3 => by rw [f12 c j w3, mI_n (by omega), mI_n (by omega), mI_n (by omega)]
  have hB : ∀ c j, ¬ (c = 99 ∧ (j = 2 ∨ j = 25 ∨ j = 26 ∨ j = 30 ∨ j = 31)) → ¬ (c = 101 ∧ 8 ≤ j ∧ j < 16) → ¬ ((c = 117 ∨ c = 118) ∧ 3 ≤ j ∧ j < 6) → H.1 c j = B.1 c j := fun c j w1 w2 w3 => by rw [h2, if_neg (by omega), g2, if_neg (by omega), mI_n (by omega), mI_n (by omega), mI_n (by omega), mI_n (by omega), mI_n (by omega)]
  have k25 : H.1 99 25 = zN n := by rw [h2, if_neg (by omega), g2, if_neg (by omega), mI_n (by omega), mI_n (by omega), mI_n (by omega), mI_n (by omega), mI_s ⟨rfl, rfl⟩]
  have k2 : H.1 99 2 = 0 := by rw [h2, if_neg (by omega), g2, if_neg (by omega), mI_n (by omega), mI_n (by omega), mI_n (by omega), mI_s ⟨rfl, rfl⟩]
  have k26 : H.1 99 26 = 0 := by rw [h2, if_neg (by omega), g2, if_neg (by omega), mI_n (by omega), mI_n (by omega), mI_s ⟨rfl, rfl⟩]
  have k30 : H.1 99 30 = 0 := by rw [h2, if_neg (by omega), g2, if_neg (by omega), mI_n (by omega), mI_s ⟨rfl, rfl⟩]
  have k31 : H.1 99 31 = -1 := by rw [h2, if_neg (by omega), g2, if_neg (by omega), mI_s ⟨rfl, rfl⟩]
  have k101 : ∀ k, k < 8 → H.1 101 (8 + k) = if k = 5 then 100 else 0 := fun k hk => by
    rw [h2, if_neg (by omega), g2, if_pos (by omega)]
    by_cases w : k = 5
    · rw [if_pos (by omega), if_pos w]
    · rw [if_neg (by omega), if_neg w]
  have k117 : ∀ c k, c = 117 ∨ c = 118 → k < 3 → H.1 c (3 + k) = 0 := fun c k hc hk => by rw [h2, if_pos (by omega)]
  have TB : TkB n (fun j => (B.1 100 j).toNatClampNeg) (mI (mI F 5 2 (zN n)) 5 3 (0 : Int32)) (mI (mI (mI (mI H 99 23 (0 : Int32)) 99 24 (0 : Int32)) 99 34 (0 : Int32)) 99 35 (0 : Int32)) := by
    refine ⟨by omega, ?_, ?_, fun j hj => ?_, fun w hw => ?_⟩
    · rw [mI_n (by omega), mI_s ⟨rfl, rfl⟩]
    · rw [mI_n (by omega), mI_n (by omega), mI_n (by omega), mI_n (by omega)]
      exact k25
    · obtain ⟨v, v1, v2, v3⟩ := hbt j hj
      dsimp only
      rw [mI_n (by omega), mI_n (by omega), mI_n (by omega), mI_n (by omega), mI_n (by omega), mI_n (by omega), hB _ _ (by omega) (by omega) (by omega), hA _ _ (by omega) (by omega) (by omega), v2, v3, zN_cl (by omega)]
      exact ⟨v1, rfl, rfl⟩
    · rw [mI_n (by omega), mI_n (by omega), hA _ _ (by omega) (by omega) (by omega)]
      exact h.cs.wd w hw
  obtain ⟨A1, B1, p, pl, a1, a2, a3, a4, a5, a6, a7, a8, a9⟩ := tok_rel (p := 0) hN TB (mI_s ⟨rfl, rfl⟩) (by rw [mI_n (by omega), mI_n (by omega), mI_n (by omega), mI_n (by omega)]; exact k26) (by omega)
  have gA : ∀ c j, ¬ (c = 5) → A1.1 c j = F.1 c j := fun c j w => by rw [a7 _ _ (by omega), mI_n (by omega), mI_n (by omega)]
  have gB : ∀ c j, ¬ (c = 99 ∧ (j = 23 ∨ j = 24 ∨ j = 34 ∨ j = 35 ∨ (26 ≤ j ∧ j ≤ 29))) → B1.1 c j = H.1 c j := fun c j w => by rw [a9 _ _ (by omega), mI_n (by omega), mI_n (by omega), mI_n (by omega), mI_n (by omega)]
  have b23 : B1.1 99 23 = 0 := by rw [a9 _ _ (by omega), mI_n (by omega), mI_n (by omega), mI_n (by omega), mI_s ⟨rfl, rfl⟩]
  have b24 : B1.1 99 24 = 0 := by rw [a9 _ _ (by omega), mI_n (by omega), mI_n (by omega), mI_s ⟨rfl, rfl⟩]
  have b34 : B1.1 99 34 = 0 := by rw [a9 _ _ (by omega), mI_n (by omega), mI_s ⟨rfl, rfl⟩]
  have b35 : B1.1 99 35 = 0 := by rw [a9 _ _ (by omega), mI_s ⟨rfl, rfl⟩]
  have hB1 : ∀ k, k < 8 → (hfM B1).1 101 k = if k = 5 then 100 else 0 := fun k hk => by
    rw [hfM_at (by omega) (by omega), show hf 101 = 8 from rfl, gB _ _ (by omega)]
    exact k101 k hk
  have OD : OrdR (fun _ => 0) q A1 (hfM B1) := by
    refine ⟨hq, ⟨Nat.zero_le _, Nat.zero_le _, Nat.zero_le _, Nat.zero_le _, Nat.zero_le _⟩, fun i hi => ?_, fun i hi => ?_, fun i k c hi hk hc => absurd hk (Nat.not_lt_zero _), fun k hk => absurd hk (Nat.not_lt_zero _), fun k hk => absurd hk (Nat.not_lt_zero _), fun k hk => absurd hk (Nat.not_lt_zero _), fun k hk => absurd hk (Nat.not_lt_zero _), fun k hk => absurd hk (Nat.not_lt_zero _), ?_, ?_, fun r hr => ⟨0, 0, by omega, by omega, ?_, ?_, ?_, ?_, fun z => absurd z (by omega)⟩, ?_⟩
    · rw [gA _ _ (by omega)]
      exact f3 i hi
    · rw [hB1 i (by omega), if_neg (by omega)]
      rfl
    · rw [gA _ _ (by omega), f7, hB1 5 (by omega), if_pos rfl]
      exact ⟨rfl, 100, by omega, by omega, rfl⟩
    · rw [gA _ _ (by omega), f9, hB1 6 (by omega), if_neg (by omega)]
      exact ⟨rfl, 0, by omega, by omega, rfl⟩
    · rw [gA _ _ (by omega)]
      exact (f6 r hr).1
    · rw [hfM_at (by omega) (by omega), show hf 117 = 3 from rfl, gB _ _ (by omega)]
      exact k117 117 r (by omega) hr
    · rw [gA _ _ (by omega)]
      exact (f6 r hr).2
    · rw [hfM_at (by omega) (by omega), show hf 118 = 3 from rfl, gB _ _ (by omega)]
      exact k117 118 r (by omega) hr
    · rw [gA _ _ (by omega), f4, hB1 7 (by omega), if_neg (by omega)]
  refine ⟨fun j => (B.1 100 j).toNatClampNeg, A1, B1, p, pl, ?_, ?_, ⟨OD, ?_, a3, a5, ?_, ⟨?_, ?_, ?_⟩, Or.inl ⟨?_, ?_⟩, Or.inl ⟨?_, ?_⟩, fun r hr => ⟨0, 0, ?_, ?_, by omega, by omega, ⟨fun z => absurd z (by omega), fun z => ?_⟩⟩, b34, ⟨by omega, ?_, ?_, b35, ?_⟩, fun i hi => ?_⟩, ?_, a6, fun c j w1 w2 w3 => ?_, fun i hi => ?_, ?_, ?_, fun c j w1 w2 => ?_, ?_⟩
  · unfold fX8_readAll
    rw [f1, b_some]
    unfold fX10_start
    rw [a1, b_some, b_some]
    rfl
  · rw [show fX12_text_47 N (fX12_text_75 N) N (0 : Int32) _ = _ from g1]
    unfold fX12_text_75
    rw [show fX12_text_77 N (fX12_text_103 N) N (3 : Int32) G = _ from h1]
    unfold fX12_text_103
    rw [a2, b_some]
  · exact TB.cong (fun c j w1 w2 w3 => a7 c j (by omega)) (fun c j w1 w2 w3 => a9 c j (by omega))
  · rw [gB _ _ (by omega)]
    exact k30
  · rw [gA _ _ (by omega), f12 _ _ (by omega), mI_n (by omega), mI_s ⟨rfl, rfl⟩]
  · rw [gA _ _ (by omega), f12 _ _ (by omega), mI_s ⟨rfl, rfl⟩]
  · rw [gB _ _ (by omega)]
    exact k31
  · rw [gA _ _ (by omega)]
    exact f8
  · rw [b23]
    exact tbt0 _ (by omega)
  · rw [gA _ _ (by omega)]
    exact f10
  · rw [b23]
    exact tbt0 _ (by omega)
  · rw [gA _ _ (by omega)]
    exact (f6 r hr).1
  · rw [gA _ _ (by omega)]
    exact (f6 r hr).2
  · rw [b23, tbt0 _ (by omega)] at z
    exact absurd z (by decide)
  · rw [gA _ _ (by omega)]
    exact f4
  · rw [gA _ _ (by omega)]
    exact f5
  · rw [gB _ _ (by omega)]
    exact k101 7 (by omega)
  · rw [gA _ _ (by omega), hA _ _ (by omega) (by omega) (by omega)]
    exact h.cs.ms q i hq hi
  · rw [gA _ _ (by omega), f11, b24]
  · rw [gA _ _ (by omega), hA _ _ (by omega) (by omega) (by omega)]
  · rw [gA _ _ (by omega), hA _ _ (by omega) (by omega) (by omega)]
  · rw [a8]
    exact f2
  · rw [gA _ _ (by omega), f12 _ _ (by omega), mI_n (by omega), mI_n (by omega), mI_s ⟨rfl, rfl⟩]
  · rw [gB _ _ (by omega), hB _ _ (by omega) (fun z => w2 ?_) (fun z => w2 ?_)]
    · rw [z.1, show hf 101 = 8 from rfl]
      omega
    · rcases z.1 with e | e
      · rw [e, show hf 117 = 3 from rfl]
        omega
      · rw [e, show hf 118 = 3 from rfl]
        omega
  · rw [gB _ _ (by omega)]
    exact k2
