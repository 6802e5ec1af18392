/-! baths begun -/
theorem hasT_v {o t z : Nat} {m : Mem} (e : m.1 (o + 3) 2 = zN z) (hz : z ≤ 6) (ht : t < 6) : fX6_hasTub o (zN t) m = some (if t < z then 1 else 0) := by
  unfold fX6_hasTub
  rw [e, if_neg (znn (by omega))]
  by_cases q : t < z
  · rw [if_neg (zle (by omega) (by omega) q), if_neg (show ¬ ((6 : Int32) ≤ zN t) from zle (a := 6) (by omega) (by omega) (by omega)), if_pos q]
  · rw [if_pos (zle' (by omega) (by omega) (by omega)), if_neg q]
theorem hasK_v {o t z : Nat} {m : Mem} (e : m.1 (o + 1) 2 = zN z) (hz : z ≤ 6) (ht : t < 6) : fX6_hasKnight o (zN t) m = some (if t < z then 1 else 0) := by
  unfold fX6_hasKnight
  rw [e, if_neg (znn (by omega))]
  by_cases q : t < z
  · rw [if_neg (zle (by omega) (by omega) q), if_neg (show ¬ ((6 : Int32) ≤ zN t) from zle (a := 6) (by omega) (by omega) (by omega)), if_pos q]
  · rw [if_pos (zle' (by omega) (by omega) (by omega)), if_neg q]
theorem beg1_step {N o b z c n : Nat} {m : Mem} {k77 : Nat → Nat → Mem → Option Mem} (hl : lay (o + 4) = (1, 18)) (hob : o ≤ 25 ∧ 43 ≤ b) (hz : z ≤ 6) (e : m.1 (o + 3) 2 = zN z) (hc : c < 6) : fX0_begin_2 N k77 (n + 1) b o (zN c) m = fX0_begin_2 N k77 n b o (zN (c + 1)) (mI (mI (mI m (b + 1) c (if c < z then m.1 (o + 4) (3 * c + 1) else 0)) (b + 2) c (if c < z then (10 : Int32) * m.1 (o + 4) (3 * c + 2) else 0)) (b + 3) c (-2)) := by
  rw [fX0_begin_2, if_neg (show ¬ ((6 : Int32) ≤ zN c) from zle (a := 6) (by omega) (by omega) (by omega)), hasT_v e hz hc, b_some]
  unfold fX0_begin_36 fX0_begin_62
  by_cases q : c < z
  · rw [if_pos q, if_pos q, if_pos q, if_neg z10, show fX9_cell (o + 3) (zN c) (1 : Int32) m = _ from cell_eq (c := 1) hl (by omega) (by omega), b_some, g_in (by omega) (by omega), if_neg z10, zN_cl (by omega), show fX9_cell (o + 3) (zN c) (2 : Int32) (mI m (b + 1) c (m.1 (o + 3 + 1) (3 * c + 1))) = _ from cell_eq (c := 2) hl (by omega) (by omega), b_some, g_ii (by omega) (by omega), g_ii (by omega) (by omega), mI_n (by omega), zN_s]
  · rw [if_neg q, if_neg q, if_neg q, if_pos rfl, if_pos rfl, g_in (by omega) (by omega), g_in (by omega) (by omega), g_in (by omega) (by omega), zN_cl (by omega), zN_s]
theorem beg1 {N o b z : Nat} {k77 : Nat → Nat → Mem → Option Mem} (hl : lay (o + 4) = (1, 18)) (hob : o ≤ 25 ∧ 43 ≤ b) (hz : z ≤ 6) : ∀ rem c n m, c + rem = 6 → rem < n → m.1 (o + 3) 2 = zN z → ∃ M, fX0_begin_2 N k77 n b o (zN c) m = k77 b o M ∧ M.2 = m.2 ∧ ∀ q j, M.1 q j = if q = b + 1 ∧ c ≤ j ∧ j < 6 then (if j < z then m.1 (o + 4) (3 * j + 1) else 0) else if q = b + 2 ∧ c ≤ j ∧ j < 6 then (if j < z then (10 : Int32) * m.1 (o + 4) (3 * j + 2) else 0) else if q = b + 3 ∧ c ≤ j ∧ j < 6 then -2 else m.1 q j := by
  intro rem
  induction rem with
  | zero =>
    intro c n m hc hn e
    obtain ⟨n', rfl, _⟩ := fuel hn
    rw [fX0_begin_2, if_pos (show (6 : Int32) ≤ zN c from zle' (a := 6) (by omega) (by omega) (by omega))]
    exact ⟨m, rfl, rfl, fun q j => by rw [if_neg (by omega), if_neg (by omega), if_neg (by omega)]⟩
  | succ rem ih =>
    intro c n m hc hn e
    obtain ⟨n', rfl, hn⟩ := fuel hn
    rw [beg1_step hl hob hz e (by omega)]
    obtain ⟨M, h1, h2, h3⟩ := ih (c + 1) n' _ (by omega) (by omega) (show (mI (mI (mI m (b + 1) c (if c < z then m.1 (o + 4) (3 * c + 1) else 0)) (b + 2) c (if c < z then (10 : Int32) * m.1 (o + 4) (3 * c + 2) else 0)) (b + 3) c (-2)).1 (o + 3) 2 = zN z from by rw [mI_n (by omega), mI_n (by omega), mI_n (by omega)]; exact e)
    refine ⟨M, h1, h2, fun q j => ?_⟩
    have g : ∀ x y, x < 43 → (mI (mI (mI m (b + 1) c (if c < z then m.1 (o + 4) (3 * c + 1) else 0)) (b + 2) c (if c < z then (10 : Int32) * m.1 (o + 4) (3 * c + 2) else 0)) (b + 3) c (-2)).1 x y = m.1 x y := fun x y hx => by rw [mI_n (by omega), mI_n (by omega), mI_n (by omega)]
    rw [h3, g (o + 4) _ (by omega), g (o + 4) _ (by omega)]
    by_cases q1 : q = b + 1 ∧ c ≤ j ∧ j < 6
    · rw [if_pos q1]
      by_cases w : j = c
      · rw [if_neg (by omega), if_neg (by omega), if_neg (by omega), mI_n (by omega), mI_n (by omega), mI_s ⟨q1.1, w⟩, w]
      · rw [if_pos (by omega)]
    · rw [if_neg q1, if_neg (by omega)]
      by_cases q2 : q = b + 2 ∧ c ≤ j ∧ j < 6
      · rw [if_pos q2]
        by_cases w : j = c
        · rw [if_neg (by omega), if_neg (by omega), mI_n (by omega), mI_s ⟨q2.1, w⟩, w]
        · rw [if_pos (by omega)]
      · rw [if_neg q2, if_neg (by omega)]
        by_cases q3 : q = b + 3 ∧ c ≤ j ∧ j < 6
        · rw [if_pos q3]
          by_cases w : j = c
          · rw [if_neg (by omega), mI_s ⟨q3.1, w⟩]
          · rw [if_pos (by omega)]
        · rw [if_neg q3, if_neg (by omega), mI_n (by omega), mI_n (by omega), mI_n (by omega)]
def bgK (b c : Nat) (v : Int32) (m : Mem) : Mem := mI (mI (mI (mI (mI (mI m (b + 4) c v) (b + 5) c (-2)) (b + 6) c 0) (b + 7) c 0) (b + 8) c 0) (b + 9) c 0
theorem bgK_at (b c : Nat) (v : Int32) (m : Mem) (q j : Nat) : (bgK b c v m).1 q j = if q = b + 4 ∧ j = c then v else if q = b + 5 ∧ j = c then -2 else if b + 6 ≤ q ∧ q ≤ b + 9 ∧ j = c then 0 else m.1 q j := by
  unfold bgK
  by_cases q1 : q = b + 4 ∧ j = c
  · rw [if_pos q1, mI_n (by omega), mI_n (by omega), mI_n (by omega), mI_n (by omega), mI_n (by omega), mI_s q1]
  · rw [if_neg q1]
    by_cases q2 : q = b + 5 ∧ j = c
    · rw [if_pos q2, mI_n (by omega), mI_n (by omega), mI_n (by omega), mI_n (by omega), mI_s q2]
    · rw [if_neg q2]
      by_cases q3 : b + 6 ≤ q ∧ q ≤ b + 9 ∧ j = c
      · rw [if_pos q3]
        by_cases w : q = b + 9
        · rw [mI_s (by omega)]
        · by_cases w2 : q = b + 8
          · rw [mI_n (by omega), mI_s (by omega)]
          · by_cases w3 : q = b + 7
            · rw [mI_n (by omega), mI_n (by omega), mI_s (by omega)]
            · rw [mI_n (by omega), mI_n (by omega), mI_n (by omega), mI_s (by omega)]
      · rw [if_neg q3, mI_n (by omega), mI_n (by omega), mI_n (by omega), mI_n (by omega), mI_n (by omega), mI_n (by omega)]
theorem beg2_step {N o b z c n : Nat} {m : Mem} (hl : lay (o + 2) = (1, 18)) (hob : o ≤ 25 ∧ 43 ≤ b) (hz : z ≤ 6) (e : m.1 (o + 1) 2 = zN z) (hc : c < 6) : fX0_begin_79 N (n + 1) b o (zN c) m = fX0_begin_79 N n b o (zN (c + 1)) (bgK b c (if c < z then m.1 (o + 2) (3 * c + 1) else 0) m) := by
  rw [fX0_begin_79, if_neg (show ¬ ((6 : Int32) ≤ zN c) from zle (a := 6) (by omega) (by omega) (by omega)), hasK_v e hz hc, b_some]
  unfold fX0_begin_111
  by_cases q : c < z
  · rw [if_pos q, if_pos q, if_neg z10, show fX9_cell (o + 1) (zN c) (1 : Int32) m = _ from cell_eq (c := 1) hl (by omega) (by omega), b_some, g_in (by omega) (by omega), g_in (by omega) (by omega), g_in (by omega) (by omega), g_in (by omega) (by omega), g_in (by omega) (by omega), g_in (by omega) (by omega), zN_cl (by omega), zN_s]
    rfl
  · rw [if_neg q, if_neg q, if_pos rfl, g_in (by omega) (by omega), g_in (by omega) (by omega), g_in (by omega) (by omega), g_in (by omega) (by omega), g_in (by omega) (by omega), g_in (by omega) (by omega), zN_cl (by omega), zN_s]
    rfl
theorem beg2 {N o b z : Nat} (hl : lay (o + 2) = (1, 18)) (hob : o ≤ 25 ∧ 43 ≤ b) (hz : z ≤ 6) : ∀ rem c n m, c + rem = 6 → rem < n → m.1 (o + 1) 2 = zN z → ∃ M, fX0_begin_79 N n b o (zN c) m = some M ∧ M.2.2 = m.2.2 ∧ (∀ c k, c ≠ b → M.2.1 c k = m.2.1 c k) ∧ M.2.1 b 11 = (m.1 o 8).toInt64 ∧ M.1 b 9 = 0 ∧ M.1 b 10 = 0 ∧ ∀ q j, ¬ (q = b ∧ (j = 9 ∨ j = 10)) → M.1 q j = if q = b + 4 ∧ c ≤ j ∧ j < 6 then (if j < z then m.1 (o + 2) (3 * j + 1) else 0) else if q = b + 5 ∧ c ≤ j ∧ j < 6 then -2 else if b + 6 ≤ q ∧ q ≤ b + 9 ∧ c ≤ j ∧ j < 6 then 0 else m.1 q j := by
  intro rem
  induction rem with
  | zero =>
    intro c n m hc hn e
    obtain ⟨n', rfl, _⟩ := fuel hn
    rw [fX0_begin_79, if_pos (show (6 : Int32) ≤ zN c from zle' (a := 6) (by omega) (by omega) (by omega))]
    refine ⟨_, rfl, rfl, fun c k q => mJ_n (by omega), ?_, ?_, ?_, fun q j w => ?_⟩
    · rw [mJ_s ⟨rfl, rfl⟩, mI_n (by omega), mI_n (by omega)]
    · rw [mJ_1, mI_n (by omega), mI_s ⟨rfl, rfl⟩]
    · rw [mJ_1, mI_s ⟨rfl, rfl⟩]
    · rw [mJ_1, if_neg (by omega), if_neg (by omega), if_neg (by omega), mI_n (by omega), mI_n (by omega)]
  | succ rem ih =>
    intro c n m hc hn e
    obtain ⟨n', rfl, hn⟩ := fuel hn
    rw [beg2_step hl hob hz e (by omega)]
    have g : ∀ x y, x < 43 → (bgK b c (if c < z then m.1 (o + 2) (3 * c + 1) else 0) m).1 x y = m.1 x y := fun x y hx => by rw [bgK_at, if_neg (by omega), if_neg (by omega), if_neg (by omega)]
    obtain ⟨M, h1, h2, h3, h4, h5, h6, h7⟩ := ih (c + 1) n' (bgK b c (if c < z then m.1 (o + 2) (3 * c + 1) else 0) m) (by omega) (by omega) (by rw [g _ _ (by omega)]; exact e)
    refine ⟨M, h1, h2, h3, h4.trans (by rw [g _ _ (by omega)]), h5, h6, fun q j w => ?_⟩
    rw [h7 q j w, g (o + 2) _ (by omega), bgK_at]
    by_cases q1 : q = b + 4 ∧ c ≤ j ∧ j < 6
    · rw [if_pos q1]
      by_cases w : j = c
      · rw [if_neg (by omega), if_neg (by omega), if_neg (by omega), if_pos ⟨q1.1, w⟩, w]
      · rw [if_pos (by omega)]
    · rw [if_neg q1, if_neg (by omega), if_neg (show ¬ (q = b + 4 ∧ j = c) from by omega)]
      by_cases q2 : q = b + 5 ∧ c ≤ j ∧ j < 6
      · rw [if_pos q2]
        by_cases w : j = c
        · rw [if_neg (by omega), if_neg (by omega), if_pos ⟨q2.1, w⟩]
        · rw [if_pos (by omega)]
      · rw [if_neg q2, if_neg (by omega), if_neg (show ¬ (q = b + 5 ∧ j = c) from by omega)]
        by_cases q3 : b + 6 ≤ q ∧ q ≤ b + 9 ∧ c ≤ j ∧ j < 6
        · rw [if_pos q3]
          by_cases w : j = c
          · rw [if_neg (by omega), if_pos (by omega)]
          · rw [if_pos (by omega)]
        · rw [if_neg q3, if_neg (by omega), if_neg (by omega)]
/-! the reference's start -/
def stK (p : Nat) (v1 v2 v3 : Int32) (m : Mem) : Mem := mI (mI (mI (mI (mI (mI (mI (mI m 126 p v1) 127 p v2) 128 p v3) 129 p (-1)) 130 p 0) 131 p 0) 132 p 0) 133 p 0
theorem stK_at (p : Nat) (v1 v2 v3 : Int32) (m : Mem) (q j : Nat) : (stK p v1 v2 v3 m).1 q j = if 126 ≤ q ∧ q ≤ 133 ∧ j = p then (if q = 126 then v1 else if q = 127 then v2 else if q = 128 then v3 else if q = 129 then -1 else 0) else m.1 q j := by
  unfold stK
  by_cases h : 126 ≤ q ∧ q ≤ 133 ∧ j = p
  · rw [if_pos h]
    obtain ⟨h1, h2, h3⟩ := h
    have : q = 126 ∨ q = 127 ∨ q = 128 ∨ q = 129 ∨ q = 130 ∨ q = 131 ∨ q = 132 ∨ q = 133 := by omega
    rcases this with rfl | rfl | rfl | rfl | rfl | rfl | rfl | rfl <;> simp [mI_at, h3]
  · rw [if_neg h, mI_n (by omega), mI_n (by omega), mI_n (by omega), mI_n (by omega), mI_n (by omega), mI_n (by omega), mI_n (by omega), mI_n (by omega)]
theorem sta_step {N s z0 z1 c n : Nat} {m : Mem} (hs : s ≤ 22) (h0 : z0 ≤ 6) (h1 : z1 ≤ 6) (e0 : m.1 101 0 = zN z0) (e1 : m.1 101 1 = zN z1) (hc : c < 6) : fX12_starts_29 N (n + 1) (zN s) (zN c) m = fX12_starts_29 N n (zN s) (zN (c + 1)) (stK (6 * s + c) (if c < z1 then m.1 106 c else 0) (if c < z1 then (10 : Int32) * m.1 107 c else 0) (if c < z0 then m.1 103 c else 0) m) := by
  rw [fX12_starts_29, if_neg (show ¬ ((6 : Int32) ≤ zN c) from zle (a := 6) (by omega) (by omega) (by omega)), zN_6, e1]
  unfold fX12_starts_67 fX12_starts_96 fX12_starts_122
  by_cases q : c < z1
  · rw [if_neg (zle (by omega) (by omega) q), g_in (k := c) (by omega) (by omega), g_in (k := 6 * s + c) (by omega) (by omega), zN_cl (n := c) (by omega), zN_cl (n := 6 * s + c) (by omega), mI_n (by omega), e1, if_neg (zle (by omega) (by omega) q), g_ii (by omega) (by omega), g_ii (by omega) (by omega), mI_n (by omega), mI_n (by omega), mI_n (by omega), e0, if_pos q, if_pos q]
    by_cases q0 : c < z0
    · rw [if_neg (zle (by omega) (by omega) q0), g_ii (by omega) (by omega), g_ii (by omega) (by omega), g_ii (by omega) (by omega), g_ii (by omega) (by omega), g_ii (by omega) (by omega), g_ii (by omega) (by omega), g_ii (by omega) (by omega), mI_n (by omega), mI_n (by omega), if_pos q0, zN_s]
      rfl
    · rw [if_pos (zle' (by omega) (by omega) (by omega)), g_ii (by omega) (by omega), g_ii (by omega) (by omega), g_ii (by omega) (by omega), g_ii (by omega) (by omega), g_ii (by omega) (by omega), g_ii (by omega) (by omega), if_neg q0, zN_s]
      rfl
  · rw [if_pos (zle' (by omega) (by omega) (by omega)), g_in (k := 6 * s + c) (by omega) (by omega), zN_cl (n := 6 * s + c) (by omega), mI_n (by omega), e1, if_pos (zle' (by omega) (by omega) (by omega)), g_ii (by omega) (by omega), mI_n (by omega), mI_n (by omega), e0, if_neg q, if_neg q]
    by_cases q0 : c < z0
    · rw [if_neg (zle (by omega) (by omega) q0), g_in (k := c) (by omega) (by omega), zN_cl (n := c) (by omega), g_ii (by omega) (by omega), g_ii (by omega) (by omega), g_ii (by omega) (by omega), g_ii (by omega) (by omega), g_ii (by omega) (by omega), g_ii (by omega) (by omega), mI_n (by omega), mI_n (by omega), if_pos q0, zN_s]
      rfl
    · rw [if_pos (zle' (by omega) (by omega) (by omega)), g_ii (by omega) (by omega), g_ii (by omega) (by omega), g_ii (by omega) (by omega), g_ii (by omega) (by omega), g_ii (by omega) (by omega), g_ii (by omega) (by omega), if_neg q0, zN_s]
      rfl
theorem sta {N s z0 z1 : Nat} (hs : s ≤ 22) (h0 : z0 ≤ 6) (h1 : z1 ≤ 6) : ∀ rem c n m, c + rem = 6 → rem < n → m.1 101 0 = zN z0 → m.1 101 1 = zN z1 → ∃ M, fX12_starts_29 N n (zN s) (zN c) m = some M ∧ ∀ q j, M.1 q j = if 126 ≤ q ∧ q ≤ 133 ∧ 6 * s + c ≤ j ∧ j < 6 * s + 6 then (if q = 126 then (if j - 6 * s < z1 then m.1 106 (j - 6 * s) else 0) else if q = 127 then (if j - 6 * s < z1 then (10 : Int32) * m.1 107 (j - 6 * s) else 0) else if q = 128 then (if j - 6 * s < z0 then m.1 103 (j - 6 * s) else 0) else if q = 129 then -1 else 0) else m.1 q j := by
  intro rem
  induction rem with
  | zero =>
    intro c n m hc hn e0 e1
    obtain ⟨n', rfl, _⟩ := fuel hn
    rw [fX12_starts_29, if_pos (show (6 : Int32) ≤ zN c from zle' (a := 6) (by omega) (by omega) (by omega))]
    exact ⟨m, rfl, fun q j => by rw [if_neg (by omega)]⟩
  | succ rem ih =>
    intro c n m hc hn e0 e1
    obtain ⟨n', rfl, hn⟩ := fuel hn
    rw [sta_step hs h0 h1 e0 e1 (by omega)]
    have g : ∀ x y, x < 126 → (stK (6 * s + c) (if c < z1 then m.1 106 c else 0) (if c < z1 then (10 : Int32) * m.1 107 c else 0) (if c < z0 then m.1 103 c else 0) m).1 x y = m.1 x y := fun x y hx => by rw [stK_at, if_neg (by omega)]
    obtain ⟨M, a1, a2⟩ := ih (c + 1) n' (stK (6 * s + c) (if c < z1 then m.1 106 c else 0) (if c < z1 then (10 : Int32) * m.1 107 c else 0) (if c < z0 then m.1 103 c else 0) m) (by omega) (by omega) (by rw [g _ _ (by omega)]; exact e0) (by rw [g _ _ (by omega)]; exact e1)
    refine ⟨M, a1, fun q j => ?_⟩
    rw [a2, g 106 _ (by omega), g 107 _ (by omega), g 103 _ (by omega), stK_at]
    by_cases p : 126 ≤ q ∧ q ≤ 133 ∧ 6 * s + c ≤ j ∧ j < 6 * s + 6
    · rw [if_pos p]
      by_cases w : j = 6 * s + c
      · rw [if_neg (by omega), if_pos ⟨p.1, p.2.1, w⟩, show j - 6 * s = c from by omega]
      · rw [if_pos (by omega)]
    · rw [if_neg p, if_neg (by omega), if_neg (by omega)]
theorem starts_ok {Z : Nat → Nat} {N o s : Nat} {mC mR : Mem} (hN : 100 ≤ N) (hO : OrdR Z o mC mR) (hs : s ≤ 22) : ∃ M, fX12_starts N (zN s) mR = some M ∧ M.1 123 s = 0 ∧ M.1 124 s = mR.1 101 6 ∧ M.1 125 s = 0 ∧ (∀ q k, 126 ≤ q → q ≤ 133 → k < 6 → M.1 q (6 * s + k) = (if q = 126 then (if k < Z 1 then mR.1 106 k else 0) else if q = 127 then (if k < Z 1 then (10 : Int32) * mR.1 107 k else 0) else if q = 128 then (if k < Z 0 then mR.1 103 k else 0) else if q = 129 then -1 else 0)) ∧ (∀ q j, ¬ (123 ≤ q ∧ q ≤ 125 ∧ j = s) → ¬ (126 ≤ q ∧ q ≤ 133 ∧ 6 * s ≤ j ∧ j < 6 * s + 6) → M.1 q j = mR.1 q j) := by
  have hz := hO.zb
  have E : fX12_starts N (zN s) mR = fX12_starts_29 N N (zN s) (zN 0) (mI (mI (mI mR 123 s 0) 124 s (mR.1 101 6)) 125 s 0) := by
    unfold fX12_starts
    rw [g_in (by omega) (by omega), g_in (by omega) (by omega), g_in (by omega) (by omega), zN_cl (by omega), mI_n (by omega)]
    rfl
  rw [E]
  have g : ∀ x y, x < 123 ∨ 125 < x → (mI (mI (mI mR 123 s 0) 124 s (mR.1 101 6)) 125 s 0).1 x y = mR.1 x y := fun x y hx => by rw [mI_n (by omega), mI_n (by omega), mI_n (by omega)]
  obtain ⟨M, a1, a2⟩ := sta (N := N) hs hz.1 hz.2.1 6 0 N (mI (mI (mI mR 123 s 0) 124 s (mR.1 101 6)) 125 s 0) (by omega) (by omega) (by rw [g _ _ (by omega)]; exact hO.sR 0 (by omega)) (by rw [g _ _ (by omega)]; exact hO.sR 1 (by omega))
  refine ⟨M, a1, ?_, ?_, ?_, fun q k h1 h2 hk => ?_, fun q j h1 h2 => ?_⟩
  · rw [a2, if_neg (by omega), mI_n (by omega), mI_n (by omega), mI_s ⟨rfl, rfl⟩]
  · rw [a2, if_neg (by omega), mI_n (by omega), mI_s ⟨rfl, rfl⟩]
  · rw [a2, if_neg (by omega), mI_s ⟨rfl, rfl⟩]
  · rw [a2, if_pos (by omega), show 6 * s + k - 6 * s = k from by omega, g 106 _ (by omega), g 107 _ (by omega), g 103 _ (by omega)]
  · rw [a2, if_neg (by omega), mI_n (by omega), mI_n (by omega), mI_n (by omega)]
theorem begin_rel {Z : Nat → Nat} {N o b s : Nat} {mC mR : Mem} (hN : 100 ≤ N) (hO : OrdR Z o mC mR) (hb : b = 43 ∨ b = 53 ∨ b = 63 ∨ b = 84) (hs : s ≤ 22) : ∃ M M', fX0_begin N b o mC = some M ∧ fX12_starts N (zN s) mR = some M' ∧ BathR Z b s M M' ∧ FC o b mC M ∧ FR s mR M' ∧ M.1 b 9 = 0 := by
  have hz := hO.zb
  have ho := hO.o25
  have hl := hO.lay
  obtain ⟨M', s1, s2, s3, s4, s5, s6⟩ := starts_ok (N := N) (s := s) hN hO hs
  obtain ⟨m1, a1, a2, a3⟩ := beg1 (N := N) (o := o) (b := b) (z := Z 1) (k77 := fX0_begin_77 N) hl.2.1 (by omega) (by omega) 6 0 N mC (by omega) (by omega) (hO.sC 1 (by omega))
  have g : ∀ x y, x < 43 → m1.1 x y = mC.1 x y := fun x y hx => by rw [a3, if_neg (by omega), if_neg (by omega), if_neg (by omega)]
  obtain ⟨M, b1, b2, b3, b4, b5, b6, b7⟩ := beg2 (N := N) (o := o) (b := b) (z := Z 0) hl.1 (by omega) (by omega) 6 0 N m1 (by omega) (by omega) (by rw [g _ _ (by omega)]; exact hO.sC 0 (by omega))
  have v1 : ∀ k, k < 6 → M.1 (b + 1) k = if k < Z 1 then mC.1 (o + 4) (3 * k + 1) else 0 := fun k hk => by rw [b7 _ _ (by omega), if_neg (by omega), if_neg (by omega), if_neg (by omega), a3, if_pos (by omega)]
  have v2 : ∀ k, k < 6 → M.1 (b + 2) k = if k < Z 1 then (10 : Int32) * mC.1 (o + 4) (3 * k + 2) else 0 := fun k hk => by rw [b7 _ _ (by omega), if_neg (by omega), if_neg (by omega), if_neg (by omega), a3, if_neg (by omega), if_pos (by omega)]
  have v3 : ∀ k, k < 6 → M.1 (b + 3) k = -2 := fun k hk => by rw [b7 _ _ (by omega), if_neg (by omega), if_neg (by omega), if_neg (by omega), a3, if_neg (by omega), if_neg (by omega), if_pos (by omega)]
  have v4 : ∀ k, k < 6 → M.1 (b + 4) k = if k < Z 0 then mC.1 (o + 2) (3 * k + 1) else 0 := fun k hk => by rw [b7 _ _ (by omega), if_pos (by omega), g _ _ (by omega)]
  have v5 : ∀ k, k < 6 → M.1 (b + 5) k = -2 := fun k hk => by rw [b7 _ _ (by omega), if_neg (by omega), if_pos (by omega)]
  have v6 : ∀ c k, 6 ≤ c → c ≤ 9 → k < 6 → M.1 (b + c) k = 0 := fun c k h1 h2 hk => by rw [b7 _ _ (by omega), if_neg (by omega), if_neg (by omega), if_pos (by omega)]
  have fC : ∀ c k, c < b ∨ b + 9 < c → M.1 c k = mC.1 c k := fun c k q => by rw [b7 _ _ (by omega), if_neg (by omega), if_neg (by omega), if_neg (by omega), a3, if_neg (by omega), if_neg (by omega), if_neg (by omega)]
  refine ⟨M, M', ?_, s1, ?_, ⟨fC, fun c k _ _ q => by rw [b3 c k q, a2], by rw [b2, a2]⟩, fun c k q1 q2 q3 => s6 c k q2 q3, b5⟩
  · unfold fX0_begin
    rw [show fX0_begin_2 N (fX0_begin_77 N) N b o (0 : Int32) mC = _ from a1]
    unfold fX0_begin_77
    exact b1
  · have rt : ∀ k c, k < Z 1 → c < 3 → mC.1 (o + 4) (3 * k + c) = mR.1 (105 + c) k := fun k c hk hc => hO.rw 1 k c (by omega) hk hc
    have rk : ∀ k c, k < Z 0 → c < 3 → mC.1 (o + 2) (3 * k + c) = mR.1 (102 + c) k := fun k c hk hc => hO.rw 0 k c (by omega) hk hc
    have r1 : ∀ k, k < 6 → M'.1 126 (6 * s + k) = if k < Z 1 then mR.1 106 k else 0 := fun k hk => by rw [s5 _ _ (by omega) (by omega) hk, if_pos rfl]
    have r2 : ∀ k, k < 6 → M'.1 127 (6 * s + k) = if k < Z 1 then (10 : Int32) * mR.1 107 k else 0 := fun k hk => by rw [s5 _ _ (by omega) (by omega) hk, if_neg (by omega), if_pos rfl]
    have r3 : ∀ k, k < 6 → M'.1 128 (6 * s + k) = if k < Z 0 then mR.1 103 k else 0 := fun k hk => by rw [s5 _ _ (by omega) (by omega) hk, if_neg (by omega), if_neg (by omega), if_pos rfl]
    refine ⟨hb, hs, by omega, fun j k hj hk => ?_, fun k hk => ?_, fun k hk => ?_, fun k hk => ?_, fun k hk => ?_, fun t ht => Or.inl (v3 t ht), ?_, ?_, ?_⟩
    · have hj : j = 0 ∨ j = 1 ∨ j = 2 ∨ j = 3 ∨ j = 4 ∨ j = 5 ∨ j = 6 := by omega
      rcases hj with rfl | rfl | rfl | rfl | rfl | rfl | rfl
      · show M.1 (b + 1) k = M'.1 126 (6 * s + k)
        rw [v1 k hk, r1 k hk]
        by_cases q : k < Z 1
        · rw [if_pos q, if_pos q]
          exact rt k 1 q (by omega)
        · rw [if_neg q, if_neg q]
      · show M.1 (b + 2) k = M'.1 127 (6 * s + k)
        rw [v2 k hk, r2 k hk]
        by_cases q : k < Z 1
        · rw [if_pos q, if_pos q, rt k 2 q (by omega)]
        · rw [if_neg q, if_neg q]
      · show M.1 (b + 4) k = M'.1 128 (6 * s + k)
        rw [v4 k hk, r3 k hk]
        by_cases q : k < Z 0
        · rw [if_pos q, if_pos q]
          exact rk k 1 q (by omega)
        · rw [if_neg q, if_neg q]
      · show M.1 (b + 8) k = M'.1 130 (6 * s + k)
        rw [v6 8 k (by omega) (by omega) hk, s5 _ _ (by omega) (by omega) hk, if_neg (by omega), if_neg (by omega), if_neg (by omega), if_neg (by omega)]
      · show M.1 (b + 6) k = M'.1 131 (6 * s + k)
        rw [v6 6 k (by omega) (by omega) hk, s5 _ _ (by omega) (by omega) hk, if_neg (by omega), if_neg (by omega), if_neg (by omega), if_neg (by omega)]
      · show M.1 (b + 7) k = M'.1 132 (6 * s + k)
        rw [v6 7 k (by omega) (by omega) hk, s5 _ _ (by omega) (by omega) hk, if_neg (by omega), if_neg (by omega), if_neg (by omega), if_neg (by omega)]
      · show M.1 (b + 9) k = M'.1 133 (6 * s + k)
        rw [v6 9 k (by omega) (by omega) hk, s5 _ _ (by omega) (by omega) hk, if_neg (by omega), if_neg (by omega), if_neg (by omega), if_neg (by omega)]
    · rw [s5 _ _ (by omega) (by omega) (by omega), if_pos rfl, if_pos hk]
      obtain ⟨⟨v, w1, w2, w3⟩, _⟩ := hO.tl k hk
      exact ⟨v, w1, by omega, w3⟩
    · rw [s5 _ _ (by omega) (by omega) (by omega), if_neg (by omega), if_pos rfl, if_pos hk]
      obtain ⟨_, v, w1, w2, w3⟩ := hO.tl k hk
      exact ⟨10 * v, by omega, by omega, by rw [w3, show (10 : Int32) = zN 10 from rfl, zN_mul]⟩
    · rw [s5 _ _ (by omega) (by omega) (by omega), if_neg (by omega), if_neg (by omega), if_pos rfl, if_pos hk]
      exact (hO.kb k hk).1
    · refine Or.inl ⟨v5 k hk, ?_⟩
      rw [s5 _ _ (by omega) (by omega) hk, if_neg (by omega), if_neg (by omega), if_neg (by omega), if_pos rfl]
    · rw [b5, s2]
    · rw [b6, s4]
    · obtain ⟨v, w1, w2, w3⟩ := hO.sd.2
      refine ⟨v, by omega, ?_, by rw [s3, w3]⟩
      rw [b4, g _ _ (by omega), hO.sd.1, w3, zN_64 (by omega)]
