/-! tokens on both sides -/
def TkB (n : Nat) (bt : Nat → Nat) (mC mR : Mem) : Prop := (n ≤ 700) ∧ (mC.1 5 2 = zN n) ∧ (mR.1 99 25 = zN n) ∧ (∀ j, j < n → bt j < 256 ∧ mC.1 1 j &&& (255 : Int32) = zN (bt j) ∧ mR.1 100 j = zN (bt j)) ∧ (∀ w, w < 21 → mC.1 6 w = wrdAt 106 w)
theorem TkB.hn {n : Nat} {bt : Nat → Nat} {mC mR : Mem} (h : TkB n bt mC mR) : n ≤ 700 := h.1
theorem TkB.ec {n : Nat} {bt : Nat → Nat} {mC mR : Mem} (h : TkB n bt mC mR) : mC.1 5 2 = zN n := h.2.1
theorem TkB.er {n : Nat} {bt : Nat → Nat} {mC mR : Mem} (h : TkB n bt mC mR) : mR.1 99 25 = zN n := h.2.2.1
theorem TkB.bb {n : Nat} {bt : Nat → Nat} {mC mR : Mem} (h : TkB n bt mC mR) : ∀ j, j < n → bt j < 256 ∧ mC.1 1 j &&& (255 : Int32) = zN (bt j) ∧ mR.1 100 j = zN (bt j) := h.2.2.2.1
theorem TkB.wd {n : Nat} {bt : Nat → Nat} {mC mR : Mem} (h : TkB n bt mC mR) : ∀ w, w < 21 → mC.1 6 w = wrdAt 106 w := h.2.2.2.2
theorem TkB.cong {n : Nat} {bt : Nat → Nat} {mC mR mC' mR' : Mem} (h : TkB n bt mC mR) (hC : ∀ c k, ¬ (c = 5 ∧ 3 ≤ k) → c ≤ 6 → c = 1 ∨ 5 ≤ c → mC'.1 c k = mC.1 c k) (hR : ∀ c k, ¬ (c = 99 ∧ k ≠ 25) → c ≤ 100 → 99 ≤ c → mR'.1 c k = mR.1 c k) : TkB n bt mC' mR' := by
  refine ⟨h.hn, ?_, ?_, fun j hj => ?_, fun w hw => ?_⟩
  · rw [hC _ _ (by omega) (by omega) (by omega)]
    exact h.ec
  · rw [hR _ _ (by omega) (by omega) (by omega)]
    exact h.er
  · rw [hC _ _ (by omega) (by omega) (by omega), hR _ _ (by omega) (by omega) (by omega)]
    exact h.bb j hj
  · rw [hC _ _ (by omega) (by omega) (by omega)]
    exact h.wd w hw
theorem TkB.c {n : Nat} {bt : Nat → Nat} {mC mR : Mem} (h : TkB n bt mC mR) {k : Nat} {v : Int32} (hk : 3 ≤ k) : TkB n bt (mI mC 5 k v) mR := h.cong (fun c j p _ _ => mI_n (by omega)) (fun _ _ _ _ _ => rfl)
theorem TkB.r {n : Nat} {bt : Nat → Nat} {mC mR : Mem} (h : TkB n bt mC mR) {k : Nat} {v : Int32} (hk : k ≠ 25) : TkB n bt mC (mI mR 99 k v) := h.cong (fun _ _ _ _ _ => rfl) (fun c j p _ _ => mI_n (by omega))
def hbt (n : Nat) (bt : Nat → Nat) (p : Nat) : Int32 := if p < n then zN (bt p) else -1
theorem byteAt_ok {n p : Nat} {bt : Nat → Nat} {mC mR : Mem} (h : TkB n bt mC mR) (hp : p ≤ 1000) : fX10_byteAt (zN p) mC = some (hbt n bt p) := by
  have hn := h.hn
  unfold fX10_byteAt hbt
  rw [if_neg (znn (by omega)), h.ec]
  by_cases q : p < n
  · rw [if_neg (zle (by omega) (by omega) q), if_neg (show ¬ (Int32.ofNat 700 ≤ zN p) from zle (a := 700) (by omega) (by omega) (by omega)), g_in (by omega) (by omega), zN_cl (by omega), (h.bb p q).2.1, if_pos q]
  · rw [if_pos (zle' (by omega) (by omega) (by omega)), if_neg q]
theorem here_ok {n p : Nat} {bt : Nat → Nat} {mC mR : Mem} (h : TkB n bt mC mR) (hp : p ≤ 1000) (e : mR.1 99 26 = zN p) : fX12_here mR = some (hbt n bt p) := by
  have hn := h.hn
  unfold fX12_here hbt
  rw [h.er, e]
  by_cases q : p < n
  · rw [if_neg (zle (by omega) (by omega) q), g_in (by omega) (by omega), zN_cl (by omega), (h.bb p q).2.2, if_pos q]
  · rw [if_pos (zle' (by omega) (by omega) (by omega)), if_neg q]
theorem hbt_eq {n p v : Nat} {bt : Nat → Nat} {mC mR : Mem} (h : TkB n bt mC mR) (hv : v < 256) : (hbt n bt p = zN v) = (p < n ∧ bt p = v) := by
  unfold hbt
  by_cases q : p < n
  · have := (h.bb p q).1
    rw [if_pos q, zN_eq (by omega) (by omega)]
    exact propext ⟨fun z => ⟨q, z⟩, fun z => z.2⟩
  · rw [if_neg q]
    exact propext ⟨fun z => by
      have z := z.symm
      rw [zN_m1 (by omega)] at z
      exact z.elim, fun z => absurd z.1 q⟩
theorem blank_ok {x : Int32} {m : Mem} : fX10_isBlank x m = some (if x = zN 10 ∨ x = zN 32 then 1 else 0) := by
  unfold fX10_isBlank
  by_cases q : x = (10 : Int32)
  · rw [if_pos q, if_pos (show x = zN 10 ∨ x = zN 32 from Or.inl q)]
  · rw [if_neg q]
    by_cases w : x = (32 : Int32)
    · rw [if_pos w, if_pos (show x = zN 10 ∨ x = zN 32 from Or.inr w)]
    · rw [if_neg w, if_neg (show ¬ (x = zN 10 ∨ x = zN 32) from fun z => z.elim q w)]
theorem blanks {N n : Nat} {bt : Nat → Nat} {k37 k31 : Mem → Option Mem} : ∀ rem p nC nR mC mR, p + rem = n → rem < nC → rem < nR → TkB n bt mC mR → mC.1 5 3 = zN p → mR.1 99 26 = zN p → ∃ p' MC MR, p ≤ p' ∧ p' ≤ n ∧ (p' < n → bt p' ≠ 10 ∧ bt p' ≠ 32) ∧ fX10_advance_5 N k37 nC (zN p) mC = k37 MC ∧ fX12_token_0 N k31 nR mR = k31 MR ∧ MC.1 5 3 = zN p' ∧ MR.1 99 26 = zN p' ∧ (∀ c k, ¬ (c = 5 ∧ k = 3) → MC.1 c k = mC.1 c k) ∧ MC.2 = mC.2 ∧ (∀ c k, ¬ (c = 99 ∧ k = 26) → MR.1 c k = mR.1 c k) := by
  intro rem
  induction rem with
  | zero =>
    intro p nC nR mC mR hp h1 h2 h e1 e2
    have hn := h.hn
    obtain ⟨nC', rfl, _⟩ := fuel h1
    obtain ⟨nR', rfl, _⟩ := fuel h2
    have H := here_ok h (p := p) (by omega) e2
    rw [fX10_advance_5, h.ec, if_pos (zle' (by omega) (by omega) (by omega)), fX12_token_0, H, b_some, if_neg (show ¬ (hbt n bt p = (10 : Int32)) from fun z => by
      have z : hbt n bt p = zN 10 := z
      rw [hbt_eq h (by omega)] at z
      omega), b_some, if_neg (show ¬ (hbt n bt p = (32 : Int32)) from fun z => by
      have z : hbt n bt p = zN 32 := z
      rw [hbt_eq h (by omega)] at z
      omega)]
    exact ⟨p, mC, mR, by omega, by omega, fun z => absurd z (by omega), rfl, rfl, e1, e2, fun _ _ _ => rfl, rfl, fun _ _ _ => rfl⟩
  | succ rem ih =>
    intro p nC nR mC mR hp h1 h2 h e1 e2
    have hn := h.hn
    obtain ⟨nC', rfl, h1⟩ := fuel h1
    obtain ⟨nR', rfl, h2⟩ := fuel h2
    have H := here_ok h (p := p) (by omega) e2
    rw [fX10_advance_5, h.ec, if_neg (zle (by omega) (by omega) (by omega)), byteAt_ok h (by omega), b_some, blank_ok, b_some, fX12_token_0, H, b_some]
    have c10 : (hbt n bt p = zN 10) = (p < n ∧ bt p = 10) := hbt_eq h (by omega)
    have c32 : (hbt n bt p = zN 32) = (p < n ∧ bt p = 32) := hbt_eq h (by omega)
    by_cases q : bt p = 10 ∨ bt p = 32
    · rw [if_pos (show hbt n bt p = zN 10 ∨ hbt n bt p = zN 32 from by rw [c10, c32]; omega), if_neg z10, zN_s]
      have I := ih (p + 1) nC' nR' (mI mC 5 3 (zN (p + 1))) (mI mR 99 26 (zN (p + 1))) (by omega) (by omega) (by omega) ((h.c (by omega)).r (by omega)) (mI_s ⟨rfl, rfl⟩) (mI_s ⟨rfl, rfl⟩)
      have T : fX12_token_18 N (fun m => fX12_token_0 N k31 nR' m) mR = fX12_token_0 N k31 nR' (mI mR 99 26 (zN (p + 1))) := by
        unfold fX12_token_18
        rw [e2, zN_s]
      obtain ⟨p', MC, MR, a1, a2, a3, a4, a5, a6, a7, a8, a9, a10⟩ := I
      refine ⟨p', MC, MR, by omega, a2, a3, a4, ?_, a6, a7, fun c k w => by rw [a8 c k w, mI_n (by omega)], a9, fun c k w => by rw [a10 c k w, mI_n (by omega)]⟩
      rw [T]
      by_cases w : hbt n bt p = (10 : Int32)
      · rw [if_pos w]
        exact a5
      · rw [if_neg w, b_some, if_pos (show hbt n bt p = (32 : Int32) from by
          have w : ¬ (hbt n bt p = zN 10) := w
          rw [c10] at w
          show hbt n bt p = zN 32
          rw [c32]
          omega)]
        exact a5
    · rw [if_neg (show ¬ (hbt n bt p = zN 10 ∨ hbt n bt p = zN 32) from by rw [c10, c32]; omega), if_pos rfl, if_neg (show ¬ (hbt n bt p = (10 : Int32)) from by show ¬ (hbt n bt p = zN 10); rw [c10]; omega), b_some, if_neg (show ¬ (hbt n bt p = (32 : Int32)) from by show ¬ (hbt n bt p = zN 32); rw [c32]; omega)]
      exact ⟨p, mC, mR, by omega, by omega, fun _ => by omega, rfl, rfl, e1, e2, fun _ _ _ => rfl, rfl, fun _ _ _ => rfl⟩
def isL (v : Nat) : Bool := decide (97 ≤ v ∧ v ≤ 122)
def isD (v : Nat) : Bool := decide (48 ≤ v ∧ v ≤ 57)
theorem let_ok {n p : Nat} {bt : Nat → Nat} {mC mR m m' : Mem} (h : TkB n bt mC mR) : fX10_isLetter (hbt n bt p) m = some (if p < n ∧ isL (bt p) = true then 1 else 0) ∧ fX12_isSmall (hbt n bt p) m' = some (if p < n ∧ isL (bt p) = true then 1 else 0) := by
  unfold fX10_isLetter fX12_isSmall hbt isL
  by_cases q : p < n
  · have hb := (h.bb p q).1
    rw [if_pos q]
    by_cases w1 : 97 ≤ bt p
    · rw [if_neg (show ¬ (zN (bt p) < (97 : Int32)) from zlt (c := 97) (by omega) (by omega) w1)]
      by_cases w2 : bt p ≤ 122
      · rw [if_neg (show ¬ ((122 : Int32) < zN (bt p)) from zlt (a := 122) (by omega) (by omega) w2), if_pos ⟨q, decide_eq_true ⟨w1, w2⟩⟩]
        exact ⟨rfl, rfl⟩
      · rw [if_pos (show (122 : Int32) < zN (bt p) from by rw [show (122 : Int32) = zN 122 from rfl, zN_lt (by omega) (by omega)]; omega), if_neg (fun z => by
          have := of_decide_eq_true z.2
          omega)]
        exact ⟨rfl, rfl⟩
    · rw [if_pos (show zN (bt p) < (97 : Int32) from by rw [show (97 : Int32) = zN 97 from rfl, zN_lt (by omega) (by omega)]; omega), if_neg (fun z => by
        have := of_decide_eq_true z.2
        omega)]
      exact ⟨rfl, rfl⟩
  · rw [if_neg q, if_pos (by decide), if_neg (fun z => q z.1)]
    exact ⟨rfl, rfl⟩
theorem dig_ok {n p : Nat} {bt : Nat → Nat} {mC mR m m' : Mem} (h : TkB n bt mC mR) : fX10_isDigit (hbt n bt p) m = some (if p < n ∧ isD (bt p) = true then 1 else 0) ∧ fX12_isDigit (hbt n bt p) m' = some (if p < n ∧ isD (bt p) = true then 1 else 0) := by
  unfold fX10_isDigit fX12_isDigit hbt isD
  by_cases q : p < n
  · have hb := (h.bb p q).1
    rw [if_pos q]
    by_cases w1 : 48 ≤ bt p
    · rw [if_neg (show ¬ (zN (bt p) < (48 : Int32)) from zlt (c := 48) (by omega) (by omega) w1)]
      by_cases w2 : bt p ≤ 57
      · rw [if_neg (show ¬ ((57 : Int32) < zN (bt p)) from zlt (a := 57) (by omega) (by omega) w2), if_pos ⟨q, decide_eq_true ⟨w1, w2⟩⟩]
        exact ⟨rfl, rfl⟩
      · rw [if_pos (show (57 : Int32) < zN (bt p) from by rw [show (57 : Int32) = zN 57 from rfl, zN_lt (by omega) (by omega)]; omega), if_neg (fun z => by
          have := of_decide_eq_true z.2
          omega)]
        exact ⟨rfl, rfl⟩
    · rw [if_pos (show zN (bt p) < (48 : Int32) from by rw [show (48 : Int32) = zN 48 from rfl, zN_lt (by omega) (by omega)]; omega), if_neg (fun z => by
        have := of_decide_eq_true z.2
        omega)]
      exact ⟨rfl, rfl⟩
  · rw [if_neg q, if_pos (by decide), if_neg (fun z => q z.1)]
    exact ⟨rfl, rfl⟩
/-! numbers -/
def NumR (a b : Nat) : Prop := (a = b ∧ a ≤ 99999) ∨ (99999 < a ∧ a ≤ 1000000 ∧ 99999 < b ∧ b ≤ 999999)
theorem imin_ok {a b : Nat} (ha : a < 2147483648) (hb : b < 2147483648) : imin (zN a) (zN b) = zN (min a b) := by
  by_cases q : a ≤ b
  · rw [imin_zN ha hb q, Nat.min_eq_left q]
  · rw [Nat.min_eq_right (by omega)]
    unfold imin
    first
    | rw [if_pos (show zN b < zN a from by rw [zN_lt hb ha]; omega)]
    | rw [if_neg (show ¬ (zN a < zN b) from zlt ha hb (by omega))]
theorem nums {N n p : Nat} {bt : Nat → Nat} {k60 : Int32 → Mem → Option Mem} : ∀ rem d a b nC nR mC mR, p + d + rem = n → rem < nC → rem < nR → TkB n bt mC mR → mC.1 5 6 = zN a → mR.1 99 26 = zN (p + d) → mR.1 99 29 = zN b → NumR a b → ∃ d' a' b' MC MR, d ≤ d' ∧ p + d' ≤ n ∧ (p + d < n → isD (bt (p + d)) = true → d < d') ∧ fX10_takeNumber_7 N k60 nC (zN d) (zN (p + d)) mC = k60 (zN d') MC ∧ fX12_token_162 N nR mR = some MR ∧ MC.1 5 6 = zN a' ∧ MR.1 99 26 = zN (p + d') ∧ MR.1 99 29 = zN b' ∧ NumR a' b' ∧ (∀ c k, ¬ (c = 5 ∧ k = 6) → MC.1 c k = mC.1 c k) ∧ MC.2 = mC.2 ∧ (∀ c k, ¬ (c = 99 ∧ (k = 26 ∨ k = 29)) → MR.1 c k = mR.1 c k) := by
  intro rem
  induction rem with
  | zero =>
    intro d a b nC nR mC mR hp h1 h2 h e1 e2 e3 hab
    have hn := h.hn
    obtain ⟨nC', rfl, _⟩ := fuel h1
    obtain ⟨nR', rfl, _⟩ := fuel h2
    rw [fX10_takeNumber_7, h.ec, if_pos (zle' (by omega) (by omega) (by omega)), fX12_token_162, here_ok h (p := p + d) (by omega) e2, b_some, (dig_ok (m := mC) h).2, b_some, if_neg (show ¬ (p + d < n ∧ isD (bt (p + d)) = true) from by omega), if_pos rfl]
    exact ⟨d, a, b, mC, mR, by omega, by omega, fun z => absurd z (by omega), rfl, rfl, e1, e2, e3, hab, fun _ _ _ => rfl, rfl, fun _ _ _ => rfl⟩
  | succ rem ih =>
    intro d a b nC nR mC mR hp h1 h2 h e1 e2 e3 hab
    have hn := h.hn
    obtain ⟨nC', rfl, h1⟩ := fuel h1
    obtain ⟨nR', rfl, h2⟩ := fuel h2
    have hlt : p + d < n := by omega
    rw [fX10_takeNumber_7, h.ec, if_neg (zle (by omega) (by omega) (by omega)), byteAt_ok h (by omega), b_some, (dig_ok (m' := mR) h).1, b_some, b_some, fX12_token_162, here_ok h (p := p + d) (by omega) e2, b_some, (dig_ok (m := mC) h).2, b_some, b_some]
    by_cases q : isD (bt (p + d)) = true
    · have hd : 48 ≤ bt (p + d) ∧ bt (p + d) ≤ 57 := of_decide_eq_true q
      have hba : a ≤ 1000000 ∧ b ≤ 999999 := by
        rcases hab with w | w <;> omega
      have eh : hbt n bt (p + d) = zN (bt (p + d)) := by
        unfold hbt
        rw [if_pos hlt]
      rw [if_pos (show p + d < n ∧ isD (bt (p + d)) = true from ⟨hlt, q⟩), if_neg z10, if_neg z10, e1, e3, eh, show (10 : Int32) * zN a + zN (bt (p + d)) - (48 : Int32) = zN (10 * a + bt (p + d) - 48) from by rw [show (10 : Int32) = zN 10 from rfl, zN_mul, zN_add, show (48 : Int32) = zN 48 from rfl, zN_sub (by omega)], show imin (zN (10 * a + bt (p + d) - 48)) (1000000 : Int32) = zN (min (10 * a + bt (p + d) - 48) 1000000) from imin_ok (b := 1000000) (by omega) (by omega), show (10 : Int32) * zN b + zN (bt (p + d)) - (48 : Int32) = zN (10 * b + bt (p + d) - 48) from by rw [show (10 : Int32) = zN 10 from rfl, zN_mul, zN_add, show (48 : Int32) = zN 48 from rfl, zN_sub (by omega)], zN_s, zN_s]
      unfold fX12_token_204
      have go : ∀ b', NumR (min (10 * a + bt (p + d) - 48) 1000000) b' → ∃ d' a'' b'' MC MR, d ≤ d' ∧ p + d' ≤ n ∧ (p + d < n → isD (bt (p + d)) = true → d < d') ∧ fX10_takeNumber_7 N k60 nC' (zN (d + 1)) (zN (p + d + 1)) (mI mC 5 6 (zN (min (10 * a + bt (p + d) - 48) 1000000))) = k60 (zN d') MC ∧ fX12_token_162 N nR' (mI (mI mR 99 29 (zN b')) 99 26 (zN (p + d + 1))) = some MR ∧ MC.1 5 6 = zN a'' ∧ MR.1 99 26 = zN (p + d') ∧ MR.1 99 29 = zN b'' ∧ NumR a'' b'' ∧ (∀ c k, ¬ (c = 5 ∧ k = 6) → MC.1 c k = mC.1 c k) ∧ MC.2 = mC.2 ∧ (∀ c k, ¬ (c = 99 ∧ (k = 26 ∨ k = 29)) → MR.1 c k = mR.1 c k) := by
        intro b' hb'
        obtain ⟨d', a'', b'', MC, MR, r1, r2, r3, r4, r5, r6, r7, r8, r9, r10, r11, r12⟩ := ih (d + 1) (min (10 * a + bt (p + d) - 48) 1000000) b' nC' nR' (mI mC 5 6 (zN (min (10 * a + bt (p + d) - 48) 1000000))) (mI (mI mR 99 29 (zN b')) 99 26 (zN (p + d + 1))) (by omega) (by omega) (by omega) (((h.c (by omega)).r (by omega)).r (by omega)) (mI_s ⟨rfl, rfl⟩) (mI_s ⟨rfl, rfl⟩) (by rw [mI_n (by omega), mI_s ⟨rfl, rfl⟩]) hb'
        exact ⟨d', a'', b'', MC, MR, by omega, r2, fun _ _ => by omega, r4, r5, r6, r7, r8, r9, fun c k w => by rw [r10 c k w, mI_n (by omega)], r11, fun c k w => by rw [r12 c k w, mI_n (by omega), mI_n (by omega)]⟩
      by_cases w : b ≤ 99999
      · rw [if_pos (show zN b ≤ (99999 : Int32) from zle' (c := 99999) (by omega) (by omega) w), mI_n (by omega), e2, zN_s]
        refine go _ ?_
        rcases hab with w2 | w2
        · by_cases y : 10 * a + bt (p + d) - 48 ≤ 99999
          · exact Or.inl ⟨by omega, by omega⟩
          · exact Or.inr ⟨by omega, by omega, by omega, by omega⟩
        · omega
      · rw [if_neg (show ¬ (zN b ≤ (99999 : Int32)) from zle (c := 99999) (by omega) (by omega) (by omega)), mI_n (by omega), e2, zN_s]
        refine go _ ?_
        rcases hab with w2 | w2
        · omega
        · exact Or.inr ⟨by omega, by omega, by omega, by omega⟩
    · rw [if_neg (show ¬ (p + d < n ∧ isD (bt (p + d)) = true) from fun z => q z.2), if_pos rfl, if_pos rfl]
      exact ⟨d, a, b, mC, mR, by omega, by omega, fun _ z => absurd z q, rfl, rfl, e1, e2, e3, hab, fun _ _ _ => rfl, rfl, fun _ _ _ => rfl⟩
