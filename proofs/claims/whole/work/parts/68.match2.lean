/-! the class's matching -/
def MB (Z : Nat → Nat) (N o : Nat) (C0 R0 C : Mem) : Prop := (∀ i, i < 36 → C.1 97 i = if fitb Z N o C0 (i / 6) (i % 6) = true then 1 else 0) ∧ (∀ c j, c < 95 → C.1 c j = C0.1 c j) ∧ (C.2.2 = C0.2.2) ∧ (∀ c k, c ≠ o + 16 → c ≠ o + 17 → C.2.1 c k = C0.2.1 c k)
theorem MB.f {Z : Nat → Nat} {N o : Nat} {C0 R0 C : Mem} (h : MB Z N o C0 R0 C) : ∀ i, i < 36 → C.1 97 i = if fitb Z N o C0 (i / 6) (i % 6) = true then 1 else 0 := h.1
theorem MB.n {Z : Nat → Nat} {N o : Nat} {C0 R0 C : Mem} (h : MB Z N o C0 R0 C) : ∀ c j, c < 95 → C.1 c j = C0.1 c j := h.2.1
theorem MB.r {Z : Nat → Nat} {N o : Nat} {C0 R0 C : Mem} (h : MB Z N o C0 R0 C) : C.2.2 = C0.2.2 := h.2.2.1
theorem MB.j {Z : Nat → Nat} {N o : Nat} {C0 R0 C : Mem} (h : MB Z N o C0 R0 C) : ∀ c k, c ≠ o + 16 → c ≠ o + 17 → C.2.1 c k = C0.2.1 c k := h.2.2.2
theorem MB.up {Z : Nat → Nat} {N o : Nat} {C0 R0 C : Mem} (h : MB Z N o C0 R0 C) {c k : Nat} {v : Int32} (hc : c = 95 ∨ c = 96 ∨ c = 98) : MB Z N o C0 R0 (mI C c k v) := ⟨fun i hi => by rw [mI_n (by omega)]; exact h.f i hi, fun c' j q => by rw [mI_n (by omega)]; exact h.n c' j q, h.r, h.j⟩
theorem f30 {Z : Nat → Nat} {N o : Nat} {C0 R0 : Mem} {k88 : Nat → Int32 → Mem → Option Mem} {x3 : Int32} (hN : 100 ≤ N) (hO : OrdR Z o C0 R0) (hB : BathR Z 43 0 C0 R0) : ∀ rem i n C, i + rem = 36 → rem < n → (∀ i', i' < i → C.1 97 i' = if fitb Z N o C0 (i' / 6) (i' % 6) = true then 1 else 0) → (∀ c j, c < 95 → C.1 c j = C0.1 c j) → C.2.2 = C0.2.2 → (∀ c k, c ≠ o + 16 → c ≠ o + 17 → C.2.1 c k = C0.2.1 c k) → ∃ C', fX4_find_30 N k88 n o 43 x3 (zN (Z 1)) (zN i) C = k88 43 x3 C' ∧ MB Z N o C0 R0 C' := by
  have hz := hO.zb
  have ho := hO.o25
  intro rem
  induction rem with
  | zero =>
    intro i n C hi hn h1 h2 h3 h4
    obtain ⟨n', rfl, _⟩ := fuel hn
    rw [fX4_find_30, if_pos (show Int32.ofNat 36 ≤ zN i from zle' (a := 36) (by omega) (by omega) (by omega))]
    exact ⟨C, rfl, fun i' hi' => h1 i' (by omega), h2, h3, h4⟩
  | succ rem ih =>
    intro i n C hi hn h1 h2 h3 h4
    obtain ⟨n', rfl, hn⟩ := fuel hn
    have next : ∀ C1 : Mem, SC o C C1 → ∃ C', fX4_find_30 N k88 n' o 43 x3 (zN (Z 1)) (zN (i + 1)) (mI C1 97 i (if fitb Z N o C0 (i / 6) (i % 6) = true then 1 else 0)) = k88 43 x3 C' ∧ MB Z N o C0 R0 C' := by
      intro C1 sc
      refine ih (i + 1) n' _ (by omega) (by omega) (fun i' hi' => ?_) (fun c j q => ?_) (sc.2.1.trans h3) (fun c k q1 q2 => (sc.2.2 c k q1 q2).trans (h4 c k q1 q2))
      · by_cases y : i' = i
        · rw [y, mI_s ⟨rfl, rfl⟩]
        · rw [mI_n (by omega), sc.1]
          exact h1 i' (by omega)
      · rw [mI_n (by omega), sc.1]
        exact h2 c j q
    rw [fX4_find_30, if_neg (show ¬ (Int32.ofNat 36 ≤ zN i) from zle (a := 36) (by omega) (by omega) (by omega)), show jrem (zN i) (6 : Int32) = zN (i % 6) from jrem_zN (y := 6) (by omega) (by omega), show zN i / (6 : Int32) = zN (i / 6) from zN_div (b := 6) (by omega) (by omega), zN_s]
    by_cases q : i % 6 < Z 1
    · rw [if_neg (zle (by omega) (by omega) q)]
      obtain ⟨C1, e1, e2⟩ := ease_cls (C := C) hN hO hB (hO.cong (fun c j w => h2 c j (by omega)) (fun _ _ _ _ => rfl)) (hB.cong (fun c j _ _ => h2 c j (by omega)) (h4 _ _ (by omega) (by omega)) (fun _ _ _ => rfl) (fun _ _ _ _ _ => rfl)) (show i / 6 < 6 by omega) q
      rw [e1, b_some]
      have X := next C1 e2
      by_cases w : fitb Z N o C0 (i / 6) (i % 6) = true
      · rw [if_pos w] at X ⊢
        rw [if_neg z10, g_in (by omega) (by omega), zN_cl (by omega), show vp_nar .boolean (1 : Int32) = 1 from rfl]
        exact X
      · rw [if_neg w] at X ⊢
        rw [if_pos rfl, g_in (by omega) (by omega), zN_cl (by omega), show vp_nar .boolean (0 : Int32) = 0 from rfl]
        exact X
    · have w : fitb Z N o C0 (i / 6) (i % 6) = false := by
        unfold fitb
        rw [decide_eq_false (show ¬ (i / 6 < Z 0 ∧ i % 6 < Z 1) from by omega)]
        rfl
      have X := next C ⟨rfl, rfl, fun _ _ _ _ => rfl⟩
      rw [w, if_neg (by decide)] at X
      rw [if_pos (zle' (by omega) (by omega) (by omega)), g_in (by omega) (by omega), zN_cl (by omega), show vp_nar .boolean (0 : Int32) = 0 from rfl]
      exact X
theorem f91 {N K : Nat} {k117 : Nat → Int32 → Mem → Option Mem} (hK : K ≤ 6) : ∀ rem s n m, s + rem = 64 → rem < n → ∃ M, fX4_find_91 N k117 n 43 (zN K) (zN s) m = k117 43 (zN K) M ∧ M.2 = m.2 ∧ ∀ c j, M.1 c j = if c = 96 ∧ K * 64 + s ≤ j ∧ j < K * 64 + 64 then 0 else m.1 c j := by
  intro rem
  induction rem with
  | zero =>
    intro s n m hs hn
    obtain ⟨n', rfl, _⟩ := fuel hn
    rw [fX4_find_91, if_pos (show (64 : Int32) ≤ zN s from zle' (a := 64) (by omega) (by omega) (by omega))]
    exact ⟨m, rfl, rfl, fun c j => by rw [if_neg (by omega)]⟩
  | succ rem ih =>
    intro s n m hs hn
    obtain ⟨n', rfl, hn⟩ := fuel hn
    rw [fX4_find_91, if_neg (show ¬ ((64 : Int32) ≤ zN s) from zle (a := 64) (by omega) (by omega) (by omega)), show zN K * (64 : Int32) + zN s = zN (K * 64 + s) from by rw [show (64 : Int32) = zN 64 from rfl, zN_mul, zN_add], g_in (by omega) (by omega), zN_cl (by omega), zN_s]
    obtain ⟨M, a1, a2, a3⟩ := ih (s + 1) n' (mI m 96 (K * 64 + s) 0) (by omega) (by omega)
    refine ⟨M, a1, a2, fun c j => ?_⟩
    rw [a3]
    by_cases p : c = 96 ∧ K * 64 + s ≤ j ∧ j < K * 64 + 64
    · rw [if_pos p]
      by_cases w : j = K * 64 + s
      · rw [if_neg (by omega), mI_s ⟨p.1, w⟩]
      · rw [if_pos (by omega)]
    · rw [if_neg p, if_neg (by omega), mI_n (by omega)]
theorem gain_ok {Z : Nat → Nat} {N o k s t j : Nat} {C0 R0 C : Mem} (hO : OrdR Z o C0 R0) (hB : BathR Z 43 0 C0 R0) (h : MB Z N o C0 R0 C) (hk : k + (j + 1) = Z 0) (hs : s < 64) (ht : t < 6) (hM : ∀ s, s < 64 → C.1 96 ((k + 1) * 64 + s) = zN (MV (fitb Z N o C0) (hvb Z R0) j (k + 1) s)) : fX4_gainWith 43 (zN k) (zN s) (zN t) C = some (if gA (fitb Z N o C0) k s t = true then zN (GV (fitb Z N o C0) (hvb Z R0) j k s t) else -1) := by
  have hz := hO.zb
  have hh := hvb_ok (o := o) hB
  unfold fX4_gainWith
  rw [show zN k * (6 : Int32) + zN t = zN (k * 6 + t) from by rw [show (6 : Int32) = zN 6 from rfl, zN_mul, zN_add], g_in (by omega) (by omega), zN_cl (n := k * 6 + t) (by omega), h.f _ (by omega), show (k * 6 + t) / 6 = k from by omega, show (k * 6 + t) % 6 = t from by omega, bit_ok (by omega) (by omega)]
  unfold gA GV gA
  by_cases q : fitb Z N o C0 k t = true
  · rw [if_pos q, if_neg z10, q]
    by_cases w : s / 2 ^ t % 2 = 0
    · obtain ⟨o1, o2⟩ := or6 t ht s hs w
      have hb := hh.2 t (fit_lt q).2
      have hb2 := hh.1 t
      have mb := MV_le (fit := fitb Z N o C0) (hv := hvb Z R0) hh.1 j (k + 1) (s + 2 ^ t)
      rw [w, if_neg (show ¬ (zN 0 = (1 : Int32)) from by decide), (sh_ok t (by omega)).2, o1, zN_s, show zN (k + 1) * (64 : Int32) + zN (s + 2 ^ t) = zN ((k + 1) * 64 + (s + 2 ^ t)) from by rw [show (64 : Int32) = zN 64 from rfl, zN_mul, zN_add], g_in (k := t) (by omega) (by omega), g_in (k := (k + 1) * 64 + (s + 2 ^ t)) (by omega) (by omega), zN_cl (n := t) (by omega), zN_cl (n := (k + 1) * 64 + (s + 2 ^ t)) (by omega), hM _ o2, h.n _ _ (by omega), show C0.1 (43 + 2) t = _ from hb.2, show (10000 : Int32) = zN 10000 from rfl, zN_add, zN_add, decide_eq_true (show 0 = 0 from rfl)]
      rfl
    · rw [show s / 2 ^ t % 2 = 1 from by omega, if_pos (show zN 1 = (1 : Int32) from rfl)]
      rfl
  · rw [if_neg q, if_pos rfl]
    rw [Bool.not_eq_true] at q
    rw [q]
    rfl
theorem best_loop {Z : Nat → Nat} {N o k s j : Nat} {C0 R0 C : Mem} (hO : OrdR Z o C0 R0) (hB : BathR Z 43 0 C0 R0) (h : MB Z N o C0 R0 C) (hk : k + (j + 1) = Z 0) (hs : s < 64) (hM : ∀ s, s < 64 → C.1 96 ((k + 1) * 64 + s) = zN (MV (fitb Z N o C0) (hvb Z R0) j (k + 1) s)) : ∀ rem t n, t + rem = 6 → rem < n → fX4_bestOf_18 N n 43 (zN k) (zN s) (zN (max (MV (fitb Z N o C0) (hvb Z R0) j (k + 1) s) (pmx (GV (fitb Z N o C0) (hvb Z R0) j k s) t))) (zN t) C = some (zN (MV (fitb Z N o C0) (hvb Z R0) (j + 1) k s)) := by
  have hz := hO.zb
  have hh := hvb_ok (o := o) hB
  have MBd := MV_le (fit := fitb Z N o C0) (hv := hvb Z R0) hh.1
  have GB : ∀ t, GV (fitb Z N o C0) (hvb Z R0) j k s t ≤ 65940 := by
    intro t
    unfold GV
    have q := MBd j (k + 1) (s + 2 ^ t)
    have w' := hh.1 t
    split <;> omega
  have PB := pmx_le GB
  intro rem
  induction rem with
  | zero =>
    intro t n ht hn
    obtain ⟨n', rfl, _⟩ := fuel hn
    rw [fX4_bestOf_18, if_pos (show (6 : Int32) ≤ zN t from zle' (a := 6) (by omega) (by omega) (by omega)), MV_s, show t = 6 from by omega]
  | succ rem ih =>
    intro t n ht hn
    obtain ⟨n', rfl, hn⟩ := fuel hn
    have m1 := MBd j (k + 1) s
    have p1 := PB t
    have g1 := GB t
    rw [fX4_bestOf_18, if_neg (show ¬ ((6 : Int32) ≤ zN t) from zle (a := 6) (by omega) (by omega) (by omega)), gain_ok hO hB h hk hs (by omega) hM, b_some, zN_s]
    have I := ih (t + 1) n' (by omega) (by omega)
    rw [pmx] at I
    by_cases q : gA (fitb Z N o C0) k s t = true
    · rw [if_pos q, imax_zN (by omega) (by omega), Nat.max_assoc]
      exact I
    · have g0 : GV (fitb Z N o C0) (hvb Z R0) j k s t = 0 := by
        unfold GV
        rw [if_neg q]
      rw [g0, Nat.max_eq_left (Nat.zero_le (pmx (GV (fitb Z N o C0) (hvb Z R0) j k s) t))] at I
      rw [if_neg q, show imax (zN (max (MV (fitb Z N o C0) (hvb Z R0) j (k + 1) s) (pmx (GV (fitb Z N o C0) (hvb Z R0) j k s) t))) (-1 : Int32) = zN (max (MV (fitb Z N o C0) (hvb Z R0) j (k + 1) s) (pmx (GV (fitb Z N o C0) (hvb Z R0) j k s) t)) from by
        unfold imax
        rw [if_neg (fun z => znn (by omega) (Int32.lt_of_lt_of_le z (by decide)))]]
      exact I
theorem best_ok {Z : Nat → Nat} {N o k s j : Nat} {C0 R0 C : Mem} (hN : 100 ≤ N) (hO : OrdR Z o C0 R0) (hB : BathR Z 43 0 C0 R0) (h : MB Z N o C0 R0 C) (hk : k + (j + 1) = Z 0) (hs : s < 64) (hM : ∀ s, s < 64 → C.1 96 ((k + 1) * 64 + s) = zN (MV (fitb Z N o C0) (hvb Z R0) j (k + 1) s)) : fX4_bestOf N 43 (zN k) (zN s) C = some (zN (MV (fitb Z N o C0) (hvb Z R0) (j + 1) k s)) := by
  have hz := hO.zb
  unfold fX4_bestOf
  rw [zN_s, show zN (k + 1) * (64 : Int32) + zN s = zN ((k + 1) * 64 + s) from by rw [show (64 : Int32) = zN 64 from rfl, zN_mul, zN_add], g_in (by omega) (by omega), zN_cl (by omega), hM s hs]
  have := best_loop (N := N) hO hB h hk hs hM 6 0 N (by omega) (by omega)
  rw [pmx, Nat.max_eq_left (Nat.zero_le _)] at this
  exact this
theorem f130 {Z : Nat → Nat} {N o k j : Nat} {C0 R0 : Mem} {x3 : Int32} {k165 : Nat → Int32 → Int32 → Mem → Option Mem} (hN : 100 ≤ N) (hO : OrdR Z o C0 R0) (hB : BathR Z 43 0 C0 R0) (hk : k + (j + 1) = Z 0) : ∀ rem s n C, s + rem = 64 → rem < n → MB Z N o C0 R0 C → (∀ s, s < 64 → C.1 96 ((k + 1) * 64 + s) = zN (MV (fitb Z N o C0) (hvb Z R0) j (k + 1) s)) → (∀ s', s' < s → C.1 96 (k * 64 + s') = zN (MV (fitb Z N o C0) (hvb Z R0) (j + 1) k s')) → ∃ C', fX4_find_130 N k165 n 43 x3 (zN k) (zN s) C = k165 43 x3 (zN k) C' ∧ MB Z N o C0 R0 C' ∧ (∀ s, s < 64 → C'.1 96 (k * 64 + s) = zN (MV (fitb Z N o C0) (hvb Z R0) (j + 1) k s)) ∧ (∀ i, (k + 1) * 64 ≤ i → C'.1 96 i = C.1 96 i) := by
  have hz := hO.zb
  intro rem
  induction rem with
  | zero =>
    intro s n C hs hn h hM hL
    obtain ⟨n', rfl, _⟩ := fuel hn
    rw [fX4_find_130, if_pos (show (64 : Int32) ≤ zN s from zle' (a := 64) (by omega) (by omega) (by omega))]
    exact ⟨C, rfl, h, fun s' hs' => hL s' (by omega), fun _ _ => rfl⟩
  | succ rem ih =>
    intro s n C hs hn h hM hL
    obtain ⟨n', rfl, hn⟩ := fuel hn
    rw [fX4_find_130, if_neg (show ¬ ((64 : Int32) ≤ zN s) from zle (a := 64) (by omega) (by omega) (by omega)), best_ok hN hO hB h hk (by omega) hM, b_some, show zN k * (64 : Int32) + zN s = zN (k * 64 + s) from by rw [show (64 : Int32) = zN 64 from rfl, zN_mul, zN_add], g_in (by omega) (by omega), zN_cl (by omega), zN_s]
    obtain ⟨C', r1, r2, r3, r4⟩ := ih (s + 1) n' (mI C 96 (k * 64 + s) (zN (MV (fitb Z N o C0) (hvb Z R0) (j + 1) k s))) (by omega) (by omega) (h.up (by omega)) (fun s' hs' => by rw [mI_n (by omega)]; exact hM s' hs') (fun s' hs' => by
      by_cases y : s' = s
      · rw [y, mI_s ⟨rfl, rfl⟩]
      · rw [mI_n (by omega)]
        exact hL s' (by omega))
    refine ⟨C', r1, r2, r3, fun i hi => ?_⟩
    rw [r4 i hi, mI_n (by omega)]
theorem f122 {Z : Nat → Nat} {N o : Nat} {C0 R0 : Mem} (hN : 100 ≤ N) (hO : OrdR Z o C0 R0) (hB : BathR Z 43 0 C0 R0) : ∀ q n C, q ≤ Z 0 → q < n → MB Z N o C0 R0 C → (∀ k s, q ≤ k → k ≤ Z 0 → s < 64 → C.1 96 (k * 64 + s) = zN (MV (fitb Z N o C0) (hvb Z R0) (Z 0 - k) k s)) → ∃ C', fX4_find_122 N n 43 (zN (Z 0)) (zN q + (-1 : Int32)) C = (fX4_choose N 43 (zN (Z 0)) C').bind (fun q2 => some q2) ∧ MB Z N o C0 R0 C' ∧ (∀ k s, k ≤ Z 0 → s < 64 → C'.1 96 (k * 64 + s) = zN (MV (fitb Z N o C0) (hvb Z R0) (Z 0 - k) k s)) := by
  have hz := hO.zb
  intro q
  induction q with
  | zero =>
    intro n C hq hn h hM
    obtain ⟨n', rfl, _⟩ := fuel hn
    rw [fX4_find_122, if_pos (by decide)]
    exact ⟨C, rfl, h, fun k s => hM k s (Nat.zero_le _)⟩
  | succ q ih =>
    intro n C hq hn h hM
    obtain ⟨n', rfl, hn⟩ := fuel hn
    obtain ⟨j, hj⟩ : ∃ j, q + (j + 1) = Z 0 := ⟨Z 0 - q - 1, by omega⟩
    rw [fX4_find_122, zdn, if_neg (znn (by omega))]
    obtain ⟨C', r1, r2, r3, r4⟩ := f130 (N := N) (x3 := zN (Z 0)) (k165 := fX4_find_165 N (fun x2 x3 x5 m => fX4_find_122 N n' x2 x3 x5 m)) hN hO hB hj 64 0 N C (by omega) (by omega) h (fun s hs => by rw [hM (q + 1) s (by omega) (by omega) hs, show Z 0 - (q + 1) = j from by omega]) (fun s' hs' => absurd hs' (by omega))
    rw [show fX4_find_130 N (fX4_find_165 N (fun x2 x3 x5 m => fX4_find_122 N n' x2 x3 x5 m)) N 43 (zN (Z 0)) (zN q) (0 : Int32) C = _ from r1]
    unfold fX4_find_165
    refine ih n' C' (by omega) (by omega) r2 (fun k s hk1 hk2 hs => ?_)
    by_cases y : k = q
    · rw [y, r3 s hs, show Z 0 - q = j + 1 from by omega]
    · rw [r4 _ (by omega)]
      exact hM k s (by omega) hk2 hs
theorem chx_some {fit : Nat → Nat → Bool} {hv : Nat → Nat} {j k s t0 : Nat} (h : chx fit hv j k s = some t0) : t0 < 6 ∧ gA fit k s t0 = true ∧ GV fit hv j k s t0 = MV fit hv (j + 1) k s ∧ ∀ t, t < t0 → GV fit hv j k s t ≠ MV fit hv (j + 1) k s := by
  unfold chx at h
  by_cases q : pmx (GV fit hv j k s) 6 < MV fit hv j (k + 1) s
  · rw [if_pos q] at h
    exact absurd h (by simp)
  · rw [if_neg q] at h
    obtain ⟨a, b, c, d⟩ := fsx_some 6 t0 h
    have e : MV fit hv (j + 1) k s = GV fit hv j k s t0 := by
      rw [MV_s, b]
      omega
    refine ⟨a, ?_, e.symm, fun t ht => ?_⟩
    · by_cases w : gA fit k s t0 = true
      · exact w
      · unfold GV at c
        rw [if_neg w] at c
        omega
    · rw [e]
      have := d t ht
      omega
theorem chx_none {fit : Nat → Nat → Bool} {hv : Nat → Nat} {j k s : Nat} (h : chx fit hv j k s = none) : ∀ t, t < 6 → gA fit k s t = true → GV fit hv j k s t ≠ MV fit hv (j + 1) k s := by
  intro t ht hg
  have p := pmx_ge (g := GV fit hv j k s) 6 t ht
  unfold chx at h
  by_cases q : pmx (GV fit hv j k s) 6 < MV fit hv j (k + 1) s
  · rw [MV_s]
    omega
  · rw [if_neg q] at h
    have z := fsx_none 6 h
    have : 10000 ≤ GV fit hv j k s t := by
      unfold GV
      rw [if_pos hg]
      omega
    omega
theorem c52 {Z : Nat → Nat} {N o k s j : Nat} {C0 R0 : Mem} {k115 : Nat → Int32 → Int32 → Int32 → Mem → Option Mem} (hO : OrdR Z o C0 R0) (hB : BathR Z 43 0 C0 R0) (hk : k + (j + 1) = Z 0) (hs : s < 64) : ∀ rem t n C, t + rem = 6 → rem + 1 < n → MB Z N o C0 R0 C → (∀ s, s < 64 → C.1 96 ((k + 1) * 64 + s) = zN (MV (fitb Z N o C0) (hvb Z R0) j (k + 1) s)) → C.1 96 (k * 64 + s) = zN (MV (fitb Z N o C0) (hvb Z R0) (j + 1) k s) → C.1 98 k = -2 → (∀ t', t' < t → gA (fitb Z N o C0) k s t' = true → GV (fitb Z N o C0) (hvb Z R0) j k s t' ≠ MV (fitb Z N o C0) (hvb Z R0) (j + 1) k s) → fX4_choose_52 N k115 n 43 (zN (Z 0)) (zN s) (zN k) (zN t) C = k115 43 (zN (Z 0)) (zN s) (zN k) (mI C 98 k ((chx (fitb Z N o C0) (hvb Z R0) j k s).elim (-2) zN)) := by
  have hz := hO.zb
  have hh := hvb_ok (o := o) hB
  have MBd := MV_le (fit := fitb Z N o C0) (hv := hvb Z R0) hh.1
  intro rem
  induction rem with
  | zero =>
    intro t n C ht hn h hM hS h98 hno
    obtain ⟨n', rfl, _⟩ := fuel (show 0 < n by omega)
    have CH : chx (fitb Z N o C0) (hvb Z R0) j k s = none := by
      cases e : chx (fitb Z N o C0) (hvb Z R0) j k s with
      | none => rfl
      | some t0 =>
        obtain ⟨a, b, c, _⟩ := chx_some e
        exact absurd c (hno t0 (by omega) b)
    rw [fX4_choose_52, if_pos (show (6 : Int32) ≤ zN t from zle' (a := 6) (by omega) (by omega) (by omega)), CH]
    have : mI C 98 k (-2) = C := by
      unfold mI
      rw [← h98]
      refine Prod.ext ?_ rfl
      funext c j
      dsimp only
      by_cases q : c = 98
      · rw [q, va_up_s, upd_at]
        split
        · rename_i w
          rw [w]
        · rfl
      · rw [va_up_n q]
    rw [show (none : Option Nat).elim (-2 : Int32) zN = -2 from rfl, this]
  | succ rem ih =>
    intro t n C ht hn h hM hS h98 hno
    obtain ⟨n', rfl, hn⟩ := fuel (show rem + 1 < n by omega)
    have G := gain_ok (t := t) hO hB h hk hs (by omega) hM
    have mb := MBd (j + 1) k s
    rw [fX4_choose_52, if_neg (show ¬ ((6 : Int32) ≤ zN t) from zle (a := 6) (by omega) (by omega) (by omega)), if_neg (zle (by omega) (by omega) (by omega)), g_in (k := k) (by omega) (by omega), zN_cl (n := k) (by omega), h98, if_neg (by decide), G, b_some, show zN k * (64 : Int32) + zN s = zN (k * 64 + s) from by rw [show (64 : Int32) = zN 64 from rfl, zN_mul, zN_add], g_in (k := k * 64 + s) (by omega) (by omega), zN_cl (n := k * 64 + s) (by omega), hS, zN_s]
    have NX : ¬ (gA (fitb Z N o C0) k s t = true ∧ GV (fitb Z N o C0) (hvb Z R0) j k s t = MV (fitb Z N o C0) (hvb Z R0) (j + 1) k s) → fX4_choose_52 N k115 n' 43 (zN (Z 0)) (zN s) (zN k) (zN (t + 1)) C = k115 43 (zN (Z 0)) (zN s) (zN k) (mI C 98 k ((chx (fitb Z N o C0) (hvb Z R0) j k s).elim (-2) zN)) := by
      intro z
      exact ih (t + 1) n' C (by omega) (by omega) h hM hS h98 (fun t' ht' g => by
        by_cases y : t' = t
        · rw [y] at g ⊢
          exact fun e => z ⟨g, e⟩
        · exact hno t' (by omega) g)
    by_cases q : gA (fitb Z N o C0) k s t = true
    · rw [if_pos q]
      have gb : GV (fitb Z N o C0) (hvb Z R0) j k s t ≤ 65940 := by
        unfold GV
        have a := MBd j (k + 1) (s + 2 ^ t)
        have b := hh.1 t
        split <;> omega
      by_cases e : GV (fitb Z N o C0) (hvb Z R0) j k s t = MV (fitb Z N o C0) (hvb Z R0) (j + 1) k s
      · rw [if_pos (by rw [e]), g_ii (by omega) (by omega)]
        have CH : chx (fitb Z N o C0) (hvb Z R0) j k s = some t := by
          cases e2 : chx (fitb Z N o C0) (hvb Z R0) j k s with
          | none => exact absurd e (chx_none e2 t (by omega) q)
          | some t0 =>
            obtain ⟨a, b, c, d⟩ := chx_some e2
            by_cases y1 : t0 < t
            · exact absurd c (hno t0 y1 b)
            · by_cases y2 : t < t0
              · exact absurd e (d t y2)
              · rw [show t0 = t from by omega]
        rw [CH]
        obtain ⟨n'', rfl, _⟩ := fuel (show 0 < n' by omega)
        rw [fX4_choose_52]
        by_cases y : (6 : Int32) ≤ zN (t + 1)
        · rw [if_pos y]
          rfl
        · rw [if_neg y, if_neg (zle (by omega) (by omega) (by omega)), g_in (k := k) (by omega) (by omega), zN_cl (n := k) (by omega), mI_s ⟨rfl, rfl⟩, if_pos (show (0 : Int32) ≤ zN t from zle' (a := 0) (by omega) (by omega) (by omega))]
          rfl
      · rw [if_neg (zne (by omega) (by omega) e)]
        exact NX (fun z => e z.2)
    · rw [if_neg q, if_neg (fun z => by
        have z := z.symm
        rw [zN_m1 (by omega)] at z
        exact z)]
      exact NX (fun z => q z.1)
theorem c33 {Z : Nat → Nat} {N o : Nat} {C0 R0 : Mem} (hN : 100 ≤ N) (hO : OrdR Z o C0 R0) (hB : BathR Z 43 0 C0 R0) : ∀ rem k n s C, k + rem = 6 → rem < n → s < 64 → MB Z N o C0 R0 C → (∀ k s, k ≤ Z 0 → s < 64 → C.1 96 (k * 64 + s) = zN (MV (fitb Z N o C0) (hvb Z R0) (Z 0 - k) k s)) → ∃ C', fX4_choose_33 N n 43 (zN (Z 0)) (zN s) (zN k) C = some C' ∧ MB Z N o C0 R0 C' ∧ (∀ j, C'.1 95 j = C.1 95 j) ∧ (∀ i, i < k → C'.1 98 i = C.1 98 i) ∧ (∀ i, k ≤ i → i < 6 → C'.1 98 i = if i < Z 0 then PV (fitb Z N o C0) (hvb Z R0) (Z 0 - k) k s i else -2) := by
  have hz := hO.zb
  intro rem
  induction rem with
  | zero =>
    intro k n s C hk hn hs h hM
    obtain ⟨n', rfl, _⟩ := fuel hn
    rw [fX4_choose_33, if_pos (show (6 : Int32) ≤ zN k from zle' (a := 6) (by omega) (by omega) (by omega))]
    exact ⟨C, rfl, h, fun _ => rfl, fun _ _ => rfl, fun i a b => absurd b (by omega)⟩
  | succ rem ih =>
    intro k n s C hk hn hs h hM
    obtain ⟨n', rfl, hn⟩ := fuel hn
    rw [fX4_choose_33, if_neg (show ¬ ((6 : Int32) ≤ zN k) from zle (a := 6) (by omega) (by omega) (by omega)), g_in (by omega) (by omega), zN_cl (by omega)]
    have h1 : MB Z N o C0 R0 (mI C 98 k (-2)) := h.up (by omega)
    have M1 : ∀ k' s, k' ≤ Z 0 → s < 64 → (mI C 98 k (-2)).1 96 (k' * 64 + s) = zN (MV (fitb Z N o C0) (hvb Z R0) (Z 0 - k') k' s) := fun k' s a b => by rw [mI_n (by omega)]; exact hM k' s a b
    by_cases q : k < Z 0
    · obtain ⟨j, hj⟩ : ∃ j, k + (j + 1) = Z 0 := ⟨Z 0 - k - 1, by omega⟩
      rw [show fX4_choose_52 N (fX4_choose_115 N (fun x1 x2 x3 x4 m => fX4_choose_33 N n' x1 x2 x3 x4 m)) N 43 (zN (Z 0)) (zN s) (zN k) (0 : Int32) (mI C 98 k (-2)) = _ from c52 hO hB hj hs 6 0 N (mI C 98 k (-2)) (by omega) (by omega) h1 (fun s hs => by rw [M1 (k + 1) s (by omega) hs, show Z 0 - (k + 1) = j from by omega]) (by rw [M1 k s (by omega) hs, show Z 0 - k = j + 1 from by omega]) (mI_s ⟨rfl, rfl⟩) (fun t' ht' => absurd ht' (by omega))]
      unfold fX4_choose_115
      have h2 := h1.up (c := 98) (k := k) (v := (chx (fitb Z N o C0) (hvb Z R0) j k s).elim (-2) zN) (by omega)
      have M2 : ∀ k' s, k' ≤ Z 0 → s < 64 → (mI (mI C 98 k (-2)) 98 k ((chx (fitb Z N o C0) (hvb Z R0) j k s).elim (-2) zN)).1 96 (k' * 64 + s) = zN (MV (fitb Z N o C0) (hvb Z R0) (Z 0 - k') k' s) := fun k' s a b => by rw [mI_n (by omega)]; exact M1 k' s a b
      rw [g_in (by omega) (by omega), g_in (by omega) (by omega), zN_cl (by omega), mI_s ⟨rfl, rfl⟩, zN_s]
      have NX : ∀ s', s' < 64 → s' = (chx (fitb Z N o C0) (hvb Z R0) j k s).elim s (fun t => s + 2 ^ t) → ∃ C', fX4_choose_33 N n' 43 (zN (Z 0)) (zN s') (zN (k + 1)) (mI (mI C 98 k (-2)) 98 k ((chx (fitb Z N o C0) (hvb Z R0) j k s).elim (-2) zN)) = some C' ∧ MB Z N o C0 R0 C' ∧ (∀ j, C'.1 95 j = C.1 95 j) ∧ (∀ i, i < k → C'.1 98 i = C.1 98 i) ∧ (∀ i, k ≤ i → i < 6 → C'.1 98 i = if i < Z 0 then PV (fitb Z N o C0) (hvb Z R0) (Z 0 - k) k s i else -2) := by
        intro s' hs' es
        obtain ⟨C', r1, r2, r3, r4, r5⟩ := ih (k + 1) n' s' _ (by omega) (by omega) hs' h2 M2
        refine ⟨C', r1, r2, fun i => ?_, fun i hi => ?_, fun i a b => ?_⟩
        · rw [r3 i, mI_n (by omega), mI_n (by omega)]
        · rw [r4 i (by omega), mI_n (by omega), mI_n (by omega)]
        · rw [show Z 0 - k = j + 1 from by omega, PV]
          by_cases y : i = k
          · rw [y, r4 k (by omega), mI_s ⟨rfl, rfl⟩, if_pos q, if_pos rfl]
          · rw [r5 i (by omega) b, if_neg y, ← es, show Z 0 - (k + 1) = j from by omega]
      cases e : chx (fitb Z N o C0) (hvb Z R0) j k s with
      | none =>
        rw [e] at NX
        rw [show (none : Option Nat).elim (-2 : Int32) zN = -2 from rfl, if_pos (show (-2 : Int32) < 0 from by decide)]
        exact NX s hs rfl
      | some t =>
        rw [e] at NX
        obtain ⟨a, b, _, _⟩ := chx_some e
        unfold gA at b
        rw [Bool.and_eq_true] at b
        obtain ⟨o1, o2⟩ := or6 t a s hs (of_decide_eq_true b.2)
        rw [show (some t : Option Nat).elim (-2 : Int32) zN = zN t from rfl, if_neg (znn (by omega)), (sh_ok t (by omega)).2, o1]
        exact NX (s + 2 ^ t) o2 rfl
    · obtain ⟨N', rfl, _⟩ := fuel (show 0 < N by omega)
      rw [fX4_choose_52, if_neg (by decide), if_pos (zle' (by omega) (by omega) (by omega))]
      unfold fX4_choose_115
      rw [g_in (by omega) (by omega), zN_cl (by omega), mI_s ⟨rfl, rfl⟩, if_pos (by decide), zN_s]
      obtain ⟨C', r1, r2, r3, r4, r5⟩ := ih (k + 1) n' s _ (by omega) (by omega) hs h1 M1
      refine ⟨C', r1, r2, fun i => ?_, fun i hi => ?_, fun i a b => ?_⟩
      · rw [r3 i, mI_n (by omega)]
      · rw [r4 i (by omega), mI_n (by omega)]
      · rw [if_neg (by omega)]
        by_cases y : i = k
        · rw [y, r4 k (by omega), mI_s ⟨rfl, rfl⟩]
        · rw [r5 i (by omega) b, if_neg (by omega)]
theorem imin_zN {a b : Nat} (ha : a < 2147483648) (hb : b < 2147483648) (h : a ≤ b) : imin (zN a) (zN b) = zN a := by
  unfold imin
  by_cases q : zN b < zN a
  · rw [zN_lt hb ha] at q
    omega
  · first
    | rw [if_neg q]
    | (by_cases w : zN a < zN b
       · rw [if_pos w]
       · rw [if_neg w]
         rw [zN_lt ha hb] at w
         rw [show a = b from by omega])
theorem op20 {N : Nat} (hN : 1000 ≤ N) : OP20 Inv N := by
  intro mC mR x1 ⟨Z, o, nt, nu, nf, h⟩
  have h := h.th 0
  have hlo := h.lo
  have hz := h.od.zb
  have ho := h.od.o25
  unfold fX11_match fX12_match
  generalize mI mR 99 0 (0 : Int32) = R at h ⊢
  rcases rng (x := x1) (hi := 7) (by omega) with q | ⟨q1, q2, q3⟩ | ⟨v, v1, rfl, q1, q2, q3⟩
  · rw [if_pos q, if_pos q]
    exact ⟨-1, _, _, rfl, rfl, h.i⟩
  · rw [if_neg q1, if_neg q1, if_neg (show ¬ (x1 ≤ (7 : Int32)) from q3), if_neg (show ¬ (x1 ≤ (7 : Int32)) from q3)]
    exact ⟨-1, _, _, rfl, rfl, h.i⟩
  · rw [if_neg q1, if_neg q1, if_pos (show zN v ≤ (7 : Int32) from q3), if_pos (show zN v ≤ (7 : Int32) from q3), h.sp.1, if_pos hlo]
    have hh := hvb_ok (o := o) h.nw
    have mb := MV_le (fit := fitb Z N o mC) (hv := hvb Z R) hh.1 (Z 0) 0 0
    obtain ⟨C1, a1, a2⟩ := f30 (N := N) (x3 := zN (Z 0)) (k88 := fX4_find_88 N) (by omega) h.od h.nw 36 0 N mC (by omega) (by omega) (fun i hi => absurd hi (by omega)) (fun _ _ _ => rfl) rfl (fun _ _ _ _ => rfl)
    obtain ⟨C2, b1, b2, b3⟩ := f91 (N := N) (K := Z 0) (k117 := fX4_find_117 N) (by omega) 64 0 N C1 (by omega) (by omega)
    have hM2 : MB Z N o mC R C2 := ⟨fun i hi => by rw [b3, if_neg (by omega)]; exact a2.f i hi, fun c j q => by rw [b3, if_neg (by omega)]; exact a2.n c j q, by rw [b2]; exact a2.r, by rw [b2]; exact a2.j⟩
    obtain ⟨C3, c1, c2, c3⟩ := f122 (N := N) (by omega) h.od h.nw (Z 0) N C2 (by omega) (by omega) hM2 (fun k s p1 p2 p3 => by
      rw [b3, if_pos (by rw [show k = Z 0 from by omega]; omega), show Z 0 - k = 0 from by omega]
      rfl)
    have e0 : C3.1 96 0 = zN (MV (fitb Z N o mC) (hvb Z R) (Z 0) 0 0) := by
      have := c3 0 0 (by omega) (by omega)
      rw [Nat.sub_zero] at this
      exact this
    have hM3 : MB Z N o mC R (mI (mI C3 95 3 (zN (MV (fitb Z N o mC) (hvb Z R) (Z 0) 0 0 / 10000))) 95 4 (zN (MV (fitb Z N o mC) (hvb Z R) (Z 0) 0 0 % 10000))) := (c2.up (by omega)).up (by omega)
    obtain ⟨C4, d1, d2, d3, d4, d5⟩ := c33 (N := N) (by omega) h.od h.nw 6 0 N 0 _ (by omega) (by omega) (by omega) hM3 (fun k s p1 p2 => by rw [mI_n (by omega), mI_n (by omega)]; exact c3 k s p1 p2)
    have FC4 : fX4_find N o 43 mC = some C4 := by
      unfold fX4_find
      rw [show mC.1 (o + 1) 2 = zN (Z 0) from h.od.sC 0 (by omega), show mC.1 (o + 3) 2 = zN (Z 1) from h.od.sC 1 (by omega), show imin (zN (Z 0)) (6 : Int32) = zN (Z 0) from imin_zN (b := 6) (by omega) (by omega) (by omega), show imin (zN (Z 1)) (6 : Int32) = zN (Z 1) from imin_zN (b := 6) (by omega) (by omega) (by omega), show fX4_find_30 N (fX4_find_88 N) N o 43 (zN (Z 0)) (zN (Z 1)) (0 : Int32) mC = _ from a1]
      unfold fX4_find_88
      rw [show fX4_find_91 N (fX4_find_117 N) N 43 (zN (Z 0)) (0 : Int32) C1 = _ from b1]
      unfold fX4_find_117
      rw [Int32.sub_eq_add_neg, show fX4_find_122 N N 43 (zN (Z 0)) (zN (Z 0) + -1) C2 = _ from c1]
      unfold fX4_choose
      rw [e0, mI_n (by omega), e0, show zN (MV (fitb Z N o mC) (hvb Z R) (Z 0) 0 0) / (10000 : Int32) = zN (MV (fitb Z N o mC) (hvb Z R) (Z 0) 0 0 / 10000) from zN_div (b := 10000) (by omega) (by omega), show jrem (zN (MV (fitb Z N o mC) (hvb Z R) (Z 0) 0 0)) (10000 : Int32) = zN (MV (fitb Z N o mC) (hvb Z R) (Z 0) 0 0 % 10000) from jrem_zN (y := 10000) (by omega) (by omega), show fX4_choose_33 N N 43 (zN (Z 0)) (0 : Int32) (0 : Int32) _ = some C4 from d1, b_some]
    have D0 : DF R (mI (mI R 99 56 (-1 : Int32)) 99 57 (0 : Int32)) := fun c i p1 p2 p3 => by rw [mI_n (by omega), mI_n (by omega)]
    obtain ⟨m', r1, r2, r3⟩ := dfs (N := N) (by omega) h.od h.nw (Z 0) 8 0 0 0 0 0 _ (by omega) (by omega) (by omega) (by omega) (by omega) (by omega) D0 ⟨by rw [mI_n (by omega), mI_s ⟨rfl, rfl⟩]; rfl, by rw [mI_s ⟨rfl, rfl⟩]; rfl⟩
    unfold fMat
    rw [FC4, b_some, show fMatR N 8 (0 : Int32) (0 : Int32) (0 : Int32) (0 : Int32) (mI (mI R 99 56 (-1 : Int32)) 99 57 (0 : Int32)) = some m' from r1, b_some]
    have I : InvZ Z o nt nu nf C4 m' := by
      refine h.cong (fun c k q => ?_) (fun c q => d2.j c 11 (by omega) (by omega)) d2.r (fun c k q => ?_)
      · unfold KC at q
        exact d2.n c k (by omega)
      · unfold KR at q
        exact r2 c k (by omega) (by omega) (by omega)
    rcases r3.a with ⟨g1, g2, g3, g4⟩ | ⟨g1, _⟩
    · have w1 : (10000 * (0 + 1) + 0 + MV (fitb Z N o mC) (hvb Z R) (Z 0) 0 0) / 10000 = MV (fitb Z N o mC) (hvb Z R) (Z 0) 0 0 / 10000 + 1 := by omega
      have w2 : (10000 * (0 + 1) + 0 + MV (fitb Z N o mC) (hvb Z R) (Z 0) 0 0) % 10000 = MV (fitb Z N o mC) (hvb Z R) (Z 0) 0 0 % 10000 := by omega
      have s6 : m'.1 99 56 = C4.1 95 3 := by rw [g2.1, w1, zdn, d3 3, mI_n (by omega), mI_s ⟨rfl, rfl⟩]
      have s7 : m'.1 99 57 = C4.1 95 4 := by rw [g2.2, w2, d3 4, mI_s ⟨rfl, rfl⟩]
      rw [s6, s7, r2 101 0 (by omega) (by omega) (by omega), show R.1 101 0 = zN (Z 0) from h.od.sR 0 (by omega)]
      by_cases y6 : v = 6
      · rw [y6, if_pos (show (6 : Int32) ≤ zN 6 from by decide), if_pos (show zN 6 = (6 : Int32) from rfl), if_pos (show zN 6 = (6 : Int32) from rfl)]
        exact ⟨_, _, _, rfl, rfl, I.i⟩
      · by_cases y7 : v = 7
        · rw [y7, if_pos (show (6 : Int32) ≤ zN 7 from by decide), if_neg (show ¬ (zN 7 = (6 : Int32)) from by decide), if_neg (show ¬ (zN 7 = (6 : Int32)) from by decide), if_pos (show zN 7 = (7 : Int32) from rfl)]
          exact ⟨_, _, _, rfl, rfl, I.i⟩
        · rw [if_neg (show ¬ ((6 : Int32) ≤ zN v) from zle (a := 6) (by omega) (by omega) (by omega)), if_neg (show ¬ (zN v = (6 : Int32)) from zne (c := 6) (by omega) (by omega) y6), if_neg (show ¬ (zN v = (7 : Int32)) from zne (c := 7) (by omega) (by omega) y7), g_in (by omega) (by omega), g_in (by omega) (by omega), zN_cl (by omega)]
          have E := d5 v (by omega) (by omega)
          rw [Nat.sub_zero] at E
          by_cases y : v < Z 0
          · rw [if_pos y] at E
            rw [if_neg (zle (by omega) (by omega) y), g4 v (by omega) y, ← E]
            exact ⟨_, _, _, rfl, rfl, I.i⟩
          · rw [if_neg y] at E
            rw [if_pos (zle' (by omega) (by omega) (by omega)), E]
            exact ⟨_, _, _, rfl, rfl, I.i⟩
    · omega
