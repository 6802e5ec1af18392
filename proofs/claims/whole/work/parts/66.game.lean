/-! who adds the last litre -/
theorem jrem_zN {x y : Nat} (hx : x < 2147483648) (hy : y < 2147483648) : jrem (zN x) (zN y) = zN (x % y) := by
  have h1 : x / y * y ≤ x := Nat.div_mul_le_self x y
  unfold jrem
  rw [zN_div hx hy, zN_mul, zN_sub h1, Nat.mod_def, Nat.mul_comm]
def Ht (l h a : Nat) : Nat := (l * h + a * 990) / (l + a)
theorem Ht_le {l h a : Nat} (hh : h ≤ 990) : Ht l h a ≤ 990 := mix_bd hh (Nat.le_refl _)
theorem Ht_0 {l h : Nat} (hl : 1 ≤ l) : Ht l h 0 = h := by
  unfold Ht
  rw [Nat.zero_mul, Nat.add_zero, Nat.add_zero, Nat.mul_div_cancel_left _ hl]
theorem Ht_s {l h a : Nat} (hl : 1 ≤ l) (hh : h ≤ 990) : Ht l h a ≤ Ht l h (a + 1) := by
  have q := Ht_le (l := l) (a := a) hh
  unfold Ht at q ⊢
  rw [Nat.le_div_iff_mul_le (by omega)]
  have w := Nat.div_mul_le_self (l * h + a * 990) (l + a)
  rw [show l + (a + 1) = l + a + 1 from by omega, Nat.mul_add, Nat.mul_one, Nat.add_mul a 1]
  omega
theorem Ht_m {l h a : Nat} (hl : 1 ≤ l) (hh : h ≤ 990) : ∀ d, Ht l h a ≤ Ht l h (a + d) := by
  intro d
  induction d with
  | zero => exact Nat.le_refl _
  | succ d ih => exact Nat.le_trans ih (Ht_s hl hh)
theorem room_loop {N t l h L : Nat} {x2 : Int32} {R : Mem} (ht : t < 6) (hl : 1 ≤ l ∧ l ≤ 999) (hh : h ≤ 990) (hL : L ≤ 1000) (e1 : R.1 126 t = zN l) (e2 : R.1 127 t = zN h) (e3 : (10 : Int32) * x2 = zN L) : ∀ rem x n, x + rem = 999 - l → rem < n → (∀ a, a ≤ x → Ht l h a ≤ L) → ∃ r, fX12_roomOf_2 N n (zN t) x2 (zN x) R = some (zN r) ∧ r ≤ 999 - l ∧ (∀ a, a ≤ r → Ht l h a ≤ L) ∧ (r = 999 - l ∨ L < Ht l h (r + 1)) := by
  intro rem
  induction rem with
  | zero =>
    intro x n hx hn ha
    obtain ⟨n', rfl, _⟩ := fuel hn
    rw [fX12_roomOf_2, g_in (by omega) (by omega), zN_cl (by omega), e1, zN_add, zN_s, if_pos (show (999 : Int32) < zN (l + x + 1) from by rw [show (999 : Int32) = zN 999 from rfl, zN_lt (by omega) (by omega)]; omega)]
    exact ⟨x, rfl, by omega, ha, Or.inl (by omega)⟩
  | succ rem ih =>
    intro x n hx hn ha
    obtain ⟨n', rfl, hn⟩ := fuel hn
    have q := Ht_le (l := l) (a := x + 1) hh
    rw [fX12_roomOf_2, g_in (by omega) (by omega), zN_cl (by omega), e1, e2, zN_add, zN_s, zN_s, if_neg (show ¬ ((999 : Int32) < zN (l + x + 1)) from zlt (a := 999) (by omega) (by omega) (by omega)), g_ii (by omega) (by omega), g_ii (by omega) (by omega)]
    unfold fX12_mixed
    rw [if_neg (show ¬ (zN l + zN (x + 1) = 0) from by rw [zN_add]; exact zne (c := 0) (by omega) (by omega) (by omega)), show (zN l * zN h + zN (x + 1) * (990 : Int32)) / (zN l + zN (x + 1)) = zN (Ht l h (x + 1)) from mix_eq (g := 990) hl.2 (by omega) hh (by omega), b_some, e3]
    by_cases w : Ht l h (x + 1) ≤ L
    · rw [if_neg (zlt (by omega) (by omega) w)]
      exact ih (x + 1) n' (by omega) (by omega) (fun a h' => by
        by_cases y : a = x + 1
        · rw [y]
          exact w
        · exact ha a (by omega))
    · rw [if_pos (show zN L < zN (Ht l h (x + 1)) from by rw [zN_lt (by omega) (by omega)]; omega)]
      exact ⟨x, rfl, by omega, ha, Or.inr (by omega)⟩
def bhv (r a : Nat) : Nat := if a ≤ r then (r - a) % 4 else 1
theorem bhv_le (r a : Nat) : bhv r a < 4 := by
  unfold bhv
  split <;> omega
theorem bhv_y {r c : Nat} (h : c ≤ r) : bhv r c = (if bhv r (c + 1) = 0 then 1 else if bhv r (c + 2) = 0 then 2 else if bhv r (c + 3) = 0 then 3 else 0) := by
  unfold bhv
  rw [if_pos h]
  by_cases q1 : c + 1 ≤ r
  · rw [if_pos q1]
    by_cases q2 : c + 2 ≤ r
    · rw [if_pos q2]
      by_cases q3 : c + 3 ≤ r
      · rw [if_pos q3]
        split
        · omega
        · split
          · omega
          · split <;> omega
      · rw [if_neg q3]
        split
        · omega
        · split
          · omega
          · split <;> omega
    · rw [if_neg q2, if_neg (show ¬ (c + 3 ≤ r) by omega), if_neg (show ¬ (1 = 0) by decide), if_neg (show ¬ (1 = 0) by decide)]
      split <;> omega
  · rw [if_neg q1, if_neg (show ¬ (c + 2 ≤ r) by omega), if_neg (show ¬ (c + 3 ≤ r) by omega), if_neg (show ¬ (1 = 0) by decide), if_neg (show ¬ (1 = 0) by decide), if_neg (show ¬ (1 = 0) by decide)]
    omega
theorem win_loop {N t l h L r : Nat} {C : Mem} (ht : t < 6) (hl : 1 ≤ l ∧ l ≤ 999) (hh : h ≤ 990) (hL : L ≤ 1000) (e1 : C.1 44 t = zN l) (e2 : C.1 45 t = zN h) (hr : r ≤ 999 - l) (h1 : ∀ a, a ≤ r → Ht l h a ≤ L) (h2 : ∀ a, r < a → a ≤ 999 - l → L < Ht l h a) : ∀ c n x6, c ≤ 1000 - l → c < n → (c = 0 → x6 = zN (r % 4)) → fX11_winningLitres_26 N n (zN t) (zN L) (zN (bhv r c)) (zN (bhv r (c + 1))) (zN (bhv r (c + 2))) x6 (zN c + (-1 : Int32)) C = some (zN (r % 4)) := by
  intro c
  induction c with
  | zero =>
    intro n x6 _ hn hx
    obtain ⟨n', rfl, _⟩ := fuel hn
    rw [fX11_winningLitres_26, if_pos (by decide), hx rfl]
  | succ c ih =>
    intro n x6 hc hn hx
    obtain ⟨n', rfl, hn⟩ := fuel hn
    have q := Ht_le (l := l) (a := c) hh
    have b1 := bhv_le r (c + 1)
    have b2 := bhv_le r (c + 2)
    have b3 := bhv_le r (c + 3)
    have M : fX0_mixedHeat 43 (zN t) (zN c) (990 : Int32) C = some (zN (Ht l h c)) := by
      unfold fX0_mixedHeat
      rw [isTub_1 (by omega), b_some, if_neg z10, g_in (by omega) (by omega), zN_cl (by omega), show C.1 (43 + 1) t = zN l from e1, show C.1 (43 + 2) t = zN h from e2, if_pos (show 0 < zN l + zN c from by rw [zN_add, show (0 : Int32) = zN 0 from rfl, zN_lt (by omega) (by omega)]; omega), g_ii (by omega) (by omega), g_ii (by omega) (by omega), g_ii (by omega) (by omega), if_neg (show ¬ (zN l + zN c = 0) from by rw [zN_add]; exact zne (c := 0) (by omega) (by omega) (by omega)), show (zN l * zN h + zN c * (990 : Int32)) / (zN l + zN c) = zN (Ht l h c) from mix_eq (g := 990) hl.2 (by omega) hh (by omega)]
    -- whichever is the winning number
    have K : ∀ y : Nat, (c ≤ r → y = bhv r c) → fX11_winningLitres_58 N (fun x1 x2 x3 x4 x5 x6 x7 m => fX11_winningLitres_26 N n' x1 x2 x3 x4 x5 x6 x7 m) (zN t) (zN L) (zN (bhv r (c + 1))) (zN (bhv r (c + 2))) (zN c) (zN y) C = some (zN (r % 4)) := by
      intro y hy
      unfold fX11_winningLitres_58
      rw [M, b_some]
      by_cases w : c ≤ r
      · rw [if_pos (zle' (by omega) (by omega) (h1 c w)), hy w]
        refine ih n' _ (by omega) (by omega) (fun z => ?_)
        rw [z]
        unfold bhv
        rw [if_pos (by omega), Nat.sub_zero]
      · rw [if_neg (zle (by omega) (by omega) (h2 c (by omega) (by omega)))]
        have e : bhv r c = 1 := by
          unfold bhv
          rw [if_neg w]
        have I := ih n' (zN y) (by omega) (by omega) (fun z => by omega)
        rw [e] at I
        exact I
    rw [fX11_winningLitres_26, zdn, if_neg (znn (by omega))]
    by_cases w1 : bhv r (c + 1) = 0
    · rw [if_pos (show zN (bhv r (c + 1)) = 0 from by rw [w1]; rfl)]
      exact K 1 (fun z => by rw [bhv_y z, if_pos w1])
    · rw [if_neg (show ¬ (zN (bhv r (c + 1)) = 0) from zne (c := 0) (by omega) (by omega) w1), show c + 1 + 1 = c + 2 from rfl, show c + 1 + 2 = c + 3 from rfl]
      by_cases w2 : bhv r (c + 2) = 0
      · rw [if_pos (show zN (bhv r (c + 2)) = 0 from by rw [w2]; rfl)]
        exact K 2 (fun z => by rw [bhv_y z, if_neg w1, if_pos w2])
      · rw [if_neg (show ¬ (zN (bhv r (c + 2)) = 0) from zne (c := 0) (by omega) (by omega) w2)]
        by_cases w3 : bhv r (c + 3) = 0
        · rw [if_pos (show zN (bhv r (c + 3)) = 0 from by rw [w3]; rfl)]
          exact K 3 (fun z => by rw [bhv_y z, if_neg w1, if_neg w2, if_pos w3])
        · rw [if_neg (show ¬ (zN (bhv r (c + 3)) = 0) from zne (c := 0) (by omega) (by omega) w3)]
          exact K 0 (fun z => by rw [bhv_y z, if_neg w1, if_neg w2, if_neg w3])
theorem op21 {N : Nat} (hN : 2000 ≤ N) : OP21 Inv N := by
  intro mC mR x1 x2 x3 ⟨Z, o, nt, nu, nf, h⟩
  have h := h.th 0
  have hlo := h.lo
  have hz := h.od.zb
  unfold fX11_game fX12_game
  generalize mI mR 99 0 (0 : Int32) = R at h ⊢
  rw [h.sp.1, if_pos hlo]
  rcases tub_dec h.od x1 with ⟨t, t1, rfl, t3, t4⟩ | ⟨t3, t4⟩
  · rw [t3, t4, b_some, b_some, if_neg z10, if_neg z10]
    rcases rng (x := x2) (hi := 98) (by omega) with q | ⟨q1, q2, q3⟩ | ⟨d, d1, rfl, q1, q2, q3⟩
    · rw [if_pos q, if_pos q]
      exact ⟨-1, _, rfl, rfl, h.i⟩
    · rcases zN_or x2 with w | ⟨n, hn, rfl⟩
      · exact absurd w q1
      · rw [zN_lt (by omega) hn] at q2
        rw [if_neg q1, if_neg q1, if_pos (show (99 : Int32) ≤ zN n from zle' (a := 99) (by omega) hn (by omega)), if_pos (show (98 : Int32) < zN n from by rw [show (98 : Int32) = zN 98 from rfl, zN_lt (by omega) hn]; omega)]
        exact ⟨-1, _, rfl, rfl, h.i⟩
    · rw [if_neg q1, if_neg q1, if_neg (show ¬ ((99 : Int32) ≤ zN d) from zle (a := 99) (by omega) (by omega) (by omega)), if_neg (show ¬ ((98 : Int32) < zN d) from q2)]
      by_cases e1 : x3 < 0
      · rw [if_pos e1, if_pos e1]
        exact ⟨-1, _, rfl, rfl, h.i⟩
      · rw [if_neg e1, if_neg e1]
        by_cases e2 : x3 ≤ 1
        · rw [if_pos e2, if_pos e2, g_in (by omega) (by omega), g_in (by omega) (by omega), zN_cl (by omega)]
          have L := h.nw.li t t1
          have H := h.nw.he t t1
          have E0 := h.nw.eq 0 t (by omega) (by omega)
          have E1 := h.nw.eq 1 t (by omega) (by omega)
          simp only [Nat.mul_zero, Nat.zero_add] at L H E0 E1
          obtain ⟨l, l1, l2, l3⟩ := L
          obtain ⟨g, g1, g2, g3⟩ := H
          have c0 : mC.1 44 t = zN l := E0.trans l3
          have c1 : mC.1 45 t = zN g := E1.trans g3
          have e10 : (10 : Int32) * zN d = zN (10 * d) := zN_mul 10 d
          rw [c1, g3, e10]
          by_cases q : g ≤ 10 * d
          · rw [if_pos (zle' (by omega) (by omega) q), if_pos (zle' (by omega) (by omega) q)]
            obtain ⟨r, r1, r2, r3, r4⟩ := room_loop (N := N) (t := t) (R := R) (by omega) ⟨l1, l2⟩ g2 (show 10 * d ≤ 1000 by omega) l3 g3 e10 (999 - l) 0 N (by omega) (by omega) (fun a ha => by rw [show a = 0 from by omega, Ht_0 l1]; exact q)
            have W := win_loop (N := N) (t := t) (C := mC) (by omega) ⟨l1, l2⟩ g2 (show 10 * d ≤ 1000 by omega) c0 c1 r2 r3 (fun a ha hb => by
              rcases r4 with r4 | r4
              · omega
              · have := Ht_m (l := l) (h := g) (a := r + 1) l1 g2 (a - (r + 1))
                rw [show r + 1 + (a - (r + 1)) = a from by omega] at this
                omega) (1000 - l) N 0 (by omega) (by omega) (fun z => by omega)
            have b1 : ∀ a, 1000 - l ≤ a → bhv r a = 1 := fun a ha => by
              unfold bhv
              rw [if_neg (by omega)]
            rw [b1 _ (by omega), b1 _ (by omega), b1 _ (by omega)] at W
            unfold fX11_winningLitres fX12_roomOf
            rw [g_in (by omega) (by omega), zN_cl (by omega), c0, show (999 : Int32) - zN l = zN (1000 - l) + (-1 : Int32) from by rw [show 1000 - l = (999 - l) + 1 from by omega, zdn, show (999 : Int32) = zN 999 from rfl, zN_sub (by omega)], show fX11_winningLitres_26 N N (zN t) (zN (10 * d)) (1 : Int32) (1 : Int32) (1 : Int32) (0 : Int32) (zN (1000 - l) + (-1 : Int32)) mC = some (zN (r % 4)) from W, b_some, show fX12_roomOf_2 N N (zN t) (zN d) (0 : Int32) R = some (zN r) from r1, b_some, show jrem (zN r) (4 : Int32) = zN (r % 4) from jrem_zN (y := 4) (by omega) (by omega)]
            have m4 : r % 4 < 4 := Nat.mod_lt _ (by omega)
            by_cases z : r % 4 = 0
            · rw [z, if_pos (show zN 0 ≤ 0 from by decide), if_pos (show zN 0 ≤ 0 from by decide), if_pos (show zN 0 = 0 from rfl), if_pos (show zN 0 = 0 from rfl)]
              by_cases y : x3 = 0
              · rw [if_pos y, if_pos y]
                exact ⟨1, _, rfl, rfl, h.i⟩
              · rw [if_neg y, if_neg y]
                exact ⟨-2, _, rfl, rfl, h.i⟩
            · rw [if_neg (show ¬ (zN (r % 4) ≤ 0) from zle (c := 0) (by omega) (by omega) (by omega)), if_neg (show ¬ (zN (r % 4) ≤ 0) from zle (c := 0) (by omega) (by omega) (by omega)), if_neg (show ¬ (zN (r % 4) = 0) from zne (c := 0) (by omega) (by omega) z), if_neg (show ¬ (zN (r % 4) = 0) from zne (c := 0) (by omega) (by omega) z)]
              by_cases y : x3 = 0
              · rw [if_pos y, if_pos y]
                exact ⟨0, _, rfl, rfl, h.i⟩
              · rw [if_neg y, if_neg y]
                exact ⟨_, _, rfl, rfl, h.i⟩
          · rw [if_neg (zle (by omega) (by omega) (by omega)), if_neg (zle (by omega) (by omega) (by omega))]
            exact ⟨-2, _, rfl, rfl, h.i⟩
        · rw [if_neg e2, if_neg e2]
          exact ⟨-1, _, rfl, rfl, h.i⟩
  · rw [t3, t4, b_some, b_some, if_pos rfl, if_pos rfl]
    exact ⟨-1, _, rfl, rfl, h.i⟩
