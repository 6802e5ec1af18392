/-! knights matched with tubs: the best value, the first best choice -/
def gA (fit : Nat → Nat → Bool) (k s t : Nat) : Bool := fit k t && decide (s / 2 ^ t % 2 = 0)
def pmx (g : Nat → Nat) : Nat → Nat
  | 0 => 0
  | t + 1 => max (pmx g t) (g t)
def fsx (g : Nat → Nat) : Nat → Option Nat
  | 0 => none
  | t + 1 => if pmx g t < g t then some t else fsx g t
def MV (fit : Nat → Nat → Bool) (hv : Nat → Nat) : Nat → Nat → Nat → Nat
  | 0, _, _ => 0
  | j + 1, k, s => max (MV fit hv j (k + 1) s) (pmx (fun t => if gA fit k s t = true then 10000 + hv t + MV fit hv j (k + 1) (s + 2 ^ t) else 0) 6)
def GV (fit : Nat → Nat → Bool) (hv : Nat → Nat) (j k s : Nat) : Nat → Nat := fun t => if gA fit k s t = true then 10000 + hv t + MV fit hv j (k + 1) (s + 2 ^ t) else 0
def chx (fit : Nat → Nat → Bool) (hv : Nat → Nat) (j k s : Nat) : Option Nat := if pmx (GV fit hv j k s) 6 < MV fit hv j (k + 1) s then none else fsx (GV fit hv j k s) 6
def PV (fit : Nat → Nat → Bool) (hv : Nat → Nat) : Nat → Nat → Nat → Nat → Int32
  | 0, _, _, _ => -2
  | j + 1, k, s, i => if i = k then (chx fit hv j k s).elim (-2) zN else PV fit hv j (k + 1) ((chx fit hv j k s).elim s (fun t => s + 2 ^ t)) i
theorem MV_s (fit : Nat → Nat → Bool) (hv : Nat → Nat) (j k s : Nat) : MV fit hv (j + 1) k s = max (MV fit hv j (k + 1) s) (pmx (GV fit hv j k s) 6) := rfl
theorem pmx_le {g : Nat → Nat} {B : Nat} (h : ∀ t, g t ≤ B) : ∀ t, pmx g t ≤ B := by
  intro t
  induction t with
  | zero => exact Nat.zero_le _
  | succ t ih =>
    have := h t
    rw [pmx]
    omega
theorem MV_le {fit : Nat → Nat → Bool} {hv : Nat → Nat} (hh : ∀ t, hv t ≤ 990) : ∀ j k s, MV fit hv j k s ≤ j * 10990 := by
  intro j
  induction j with
  | zero =>
    intro k s
    exact Nat.zero_le _
  | succ j ih =>
    intro k s
    rw [MV_s]
    have a := ih (k + 1) s
    have b := pmx_le (g := GV fit hv j k s) (B := (j + 1) * 10990) (fun t => by
      unfold GV
      have q := ih (k + 1) (s + 2 ^ t)
      have w := hh t
      split <;> omega) 6
    omega
theorem fsx_none {g : Nat → Nat} : ∀ t, fsx g t = none → pmx g t = 0 := by
  intro t
  induction t with
  | zero => exact fun _ => rfl
  | succ t ih =>
    intro h
    rw [fsx] at h
    by_cases q : pmx g t < g t
    · rw [if_pos q] at h
      exact absurd h (by simp)
    · rw [if_neg q] at h
      have := ih h
      rw [pmx]
      omega
theorem fsx_some {g : Nat → Nat} : ∀ t t0, fsx g t = some t0 → t0 < t ∧ g t0 = pmx g t ∧ 0 < g t0 ∧ ∀ t', t' < t0 → g t' < g t0 := by
  intro t
  induction t with
  | zero =>
    intro t0 h
    rw [fsx] at h
    exact absurd h (by simp)
  | succ t ih =>
    intro t0 h
    rw [fsx] at h
    by_cases q : pmx g t < g t
    · rw [if_pos q] at h
      have e : t = t0 := Option.some.inj h
      rw [← e]
      refine ⟨by omega, by rw [pmx]; omega, by omega, fun t' ht' => ?_⟩
      have L : ∀ u, t' < u → g t' ≤ pmx g u := by
        intro u
        induction u with
        | zero => intro z; omega
        | succ u iu =>
          intro z
          rw [pmx]
          by_cases y : t' = u
          · rw [y]
            omega
          · have := iu (by omega)
            omega
      have := L t ht'
      omega
    · rw [if_neg q] at h
      obtain ⟨a, b, c, d⟩ := ih t0 h
      exact ⟨by omega, by rw [pmx]; omega, c, d⟩
theorem pmx_ge {g : Nat → Nat} : ∀ t t', t' < t → g t' ≤ pmx g t := by
  intro t
  induction t with
  | zero => intro t' z; omega
  | succ t ih =>
    intro t' z
    rw [pmx]
    by_cases y : t' = t
    · rw [y]
      omega
    · have := ih t' (by omega)
      omega
theorem pmx_st {g : Nat → Nat} {T : Nat} (h : ∀ t, T ≤ t → g t = 0) : ∀ d, pmx g (T + d) = pmx g T ∧ fsx g (T + d) = fsx g T := by
  intro d
  induction d with
  | zero => exact ⟨rfl, rfl⟩
  | succ d ih =>
    rw [← Nat.add_assoc, pmx, fsx, h (T + d) (by omega), ih.1, ih.2, if_neg (by omega)]
    exact ⟨by omega, rfl⟩
theorem or6 : ∀ t, t < 6 → ∀ s, s < 64 → s / 2 ^ t % 2 = 0 → zN s ||| zN (2 ^ t) = zN (s + 2 ^ t) ∧ s + 2 ^ t < 64 := by decide +kernel
def fitb (Z : Nat → Nat) (N o : Nat) (C0 : Mem) (k t : Nat) : Bool := decide (k < Z 0 ∧ t < Z 1) && decide (((fX6_easeIn N o 43 (zN k) (zN t) (0 : Int32) C0).getD (0, C0)).1 = 1)
def hvb (Z : Nat → Nat) (R0 : Mem) (t : Nat) : Nat := if t < Z 1 then (R0.1 127 t).toNatClampNeg else 0
theorem fit_lt {Z : Nat → Nat} {N o : Nat} {C0 : Mem} {k t : Nat} (h : fitb Z N o C0 k t = true) : k < Z 0 ∧ t < Z 1 := by
  unfold fitb at h
  rw [Bool.and_eq_true] at h
  exact of_decide_eq_true h.1
theorem hvb_ok {Z : Nat → Nat} {o : Nat} {C0 R0 : Mem} (hB : BathR Z 43 0 C0 R0) : (∀ t, hvb Z R0 t ≤ 990) ∧ (∀ t, t < Z 1 → R0.1 127 t = zN (hvb Z R0 t) ∧ C0.1 45 t = zN (hvb Z R0 t)) := by
  have hz := hB.zz
  have E : ∀ t, t < Z 1 → hvb Z R0 t ≤ 990 ∧ R0.1 127 t = zN (hvb Z R0 t) ∧ C0.1 45 t = zN (hvb Z R0 t) := by
    intro t ht
    have H := hB.he t ht
    have E1 := hB.eq 1 t (by omega) (by omega)
    simp only [Nat.mul_zero, Nat.zero_add] at H E1
    obtain ⟨g, g1, g2, g3⟩ := H
    unfold hvb
    rw [if_pos ht, g3, zN_cl (by omega)]
    exact ⟨g2, rfl, E1.trans g3⟩
  refine ⟨fun t => ?_, fun t ht => (E t ht).2⟩
  by_cases q : t < Z 1
  · exact (E t q).1
  · unfold hvb
    rw [if_neg q]
    omega
/-- the ease of knight and tub, the same on all memories that tell the same -/
theorem ease_ref {Z : Nat → Nat} {N o k t : Nat} {C0 R : Mem} (hN : 100 ≤ N) (hO : OrdR Z o C0 R) (hB : BathR Z 43 0 C0 R) (hk : k < Z 0) (ht : t < Z 1) : ∃ R', fX12_isAtEase N (0 : Int32) (zN k) (zN t) (0 : Int32) R = some ((if fitb Z N o C0 k t = true then 1 else 0), R') ∧ SR R R' := by
  obtain ⟨e, C', R', a1, a2, a3, a4, a5⟩ := ease_rel (st := 0) hN hO hB hk ht
  refine ⟨R', ?_, a5⟩
  have : (if fitb Z N o C0 k t = true then (1 : Int32) else 0) = e := by
    unfold fitb
    rw [a1, decide_eq_true (show k < Z 0 ∧ t < Z 1 from ⟨hk, ht⟩)]
    rcases a3 with rfl | rfl <;> rfl
  rw [this]
  exact a2
theorem ease_cls {Z : Nat → Nat} {N o k t : Nat} {C0 R0 C : Mem} (hN : 100 ≤ N) (hO : OrdR Z o C0 R0) (hB : BathR Z 43 0 C0 R0) (hO' : OrdR Z o C R0) (hB' : BathR Z 43 0 C R0) (hk : k < 6) (ht : t < Z 1) : ∃ C', fX6_easeIn N o 43 (zN k) (zN t) (0 : Int32) C = some ((if fitb Z N o C0 k t = true then 1 else 0), C') ∧ SC o C C' := by
  have hz := hO.zb
  by_cases q : k < Z 0
  · obtain ⟨R', b1, _⟩ := ease_ref hN hO hB q ht
    obtain ⟨e, C', R'', a1, a2, a3, a4, a5⟩ := ease_rel (st := 0) hN hO' hB' q ht
    rw [show fX12_isAtEase N (zN 0) (zN k) (zN t) 0 R0 = _ from b1] at a2
    have a2 := congrArg Prod.fst (Option.some.inj a2)
    dsimp only at a2
    rw [a2]
    exact ⟨C', a1, a4⟩
  · have F : fitb Z N o C0 k t = false := by
      unfold fitb
      rw [decide_eq_false (show ¬ (k < Z 0 ∧ t < Z 1) from by omega)]
      rfl
    rw [F]
    refine ⟨C, ?_, rfl, rfl, fun _ _ _ _ => rfl⟩
    unfold fX6_easeIn
    rw [hasK_v (hO'.sC 0 (by omega)) (by omega) hk, b_some, if_neg q, if_pos rfl]
    rfl
/-! the reference looks at all choices -/
def DF (R0 m : Mem) : Prop := ∀ c i, ¬ (c = 99 ∧ (i = 38 ∨ i = 56 ∨ i = 57)) → c ≠ 134 → c ≠ 135 → m.1 c i = R0.1 c i
theorem DF.sr {R0 m m' : Mem} (h : DF R0 m) (h' : SR m m') : DF R0 m' := fun c i q1 q2 q3 => (h' c i (by omega)).trans (h c i q1 q2 q3)
theorem DF.mI {R0 m : Mem} (h : DF R0 m) {c k : Nat} {v : Int32} (q : (c = 99 ∧ (k = 56 ∨ k = 57)) ∨ c = 134 ∨ c = 135) : DF R0 (mI m c k v) := fun c' i q1 q2 q3 => (mI_n (by omega)).trans (h c' i q1 q2 q3)
def DS (w : Nat) (m : Mem) : Prop := m.1 99 56 = zN (w / 10000) + (-1 : Int32) ∧ m.1 99 57 = zN (w % 10000)
theorem DS.sr {w : Nat} {m m' : Mem} (h : DS w m) (h' : SR m m') : DS w m' := ⟨(h' _ _ (by omega)).trans h.1, (h' _ _ (by omega)).trans h.2⟩
theorem DS.mI {w : Nat} {m : Mem} (h : DS w m) {k : Nat} {v : Int32} : DS w (mI m 134 k v) := ⟨(mI_n (by omega)).trans h.1, (mI_n (by omega)).trans h.2⟩
theorem m50 {N : Nat} {rc : Int32 → Int32 → Int32 → Int32 → Mem → Option Mem} {K : Nat} (hK : K ≤ 6) : ∀ rem i n m, i + rem = K → rem < n → ∃ M, fX12_matches_50 N rc n (zN K) (zN i) m = some M ∧ ∀ c j, M.1 c j = if c = 135 ∧ i ≤ j ∧ j < K then m.1 134 j else m.1 c j := by
  intro rem
  induction rem with
  | zero =>
    intro i n m hi hn
    obtain ⟨n', rfl, _⟩ := fuel hn
    rw [fX12_matches_50, if_pos (zle' (by omega) (by omega) (by omega))]
    exact ⟨m, rfl, fun c j => by rw [if_neg (by omega)]⟩
  | succ rem ih =>
    intro i n m hi hn
    obtain ⟨n', rfl, hn⟩ := fuel hn
    rw [fX12_matches_50, if_neg (zle (by omega) (by omega) (by omega)), g_in (by omega) (by omega), g_in (by omega) (by omega), zN_cl (by omega), zN_s]
    obtain ⟨M, a1, a2⟩ := ih (i + 1) n' (mI m 135 i (m.1 134 i)) (by omega) (by omega)
    refine ⟨M, a1, fun c j => ?_⟩
    rw [a2]
    by_cases p : c = 135 ∧ i ≤ j ∧ j < K
    · rw [if_pos p]
      by_cases w : j = i
      · rw [if_neg (by omega), mI_s ⟨p.1, w⟩, w]
      · rw [if_pos (by omega), mI_n (by omega)]
    · rw [if_neg p, if_neg (by omega), mI_n (by omega)]
def Lf (K : Nat) (k w wl : Nat) (path : Nat → Int32) (m m' : Mem) : Prop := ((w < wl ∧ DS wl m' ∧ (∀ i, i < k → m'.1 135 i = m.1 134 i) ∧ (∀ i, k ≤ i → i < K → m'.1 135 i = path i)) ∨ (wl ≤ w ∧ DS w m' ∧ ∀ i, m'.1 135 i = m.1 135 i)) ∧ (∀ i, i < k → m'.1 134 i = m.1 134 i)
theorem Lf.a {K : Nat} {k w wl : Nat} {path : Nat → Int32} {m m' : Mem} (h : Lf K k w wl path m m') : (w < wl ∧ DS wl m' ∧ (∀ i, i < k → m'.1 135 i = m.1 134 i) ∧ (∀ i, k ≤ i → i < K → m'.1 135 i = path i)) ∨ (wl ≤ w ∧ DS w m' ∧ ∀ i, m'.1 135 i = m.1 135 i) := h.1
theorem Lf.p {K : Nat} {k w wl : Nat} {path : Nat → Int32} {m m' : Mem} (h : Lf K k w wl path m m') : ∀ i, i < k → m'.1 134 i = m.1 134 i := h.2
theorem leaf_ok {Z : Nat → Nat} {N c h w : Nat} {x2 : Int32} {rc : Int32 → Int32 → Int32 → Int32 → Mem → Option Mem} {R0 m : Mem} {path : Nat → Int32} (hN : 100 ≤ N) (hz : Z 0 ≤ 6) (e : R0.1 101 0 = zN (Z 0)) (hD : DF R0 m) (hS : DS w m) (hc : c ≤ 6) (hh : h ≤ 5940) (hw : w ≤ 1000000) : ∃ m', fX12_matches N rc (zN (Z 0)) x2 (zN c) (zN h) m = some m' ∧ DF R0 m' ∧ Lf (Z 0) (Z 0) w (10000 * (c + 1) + h) path m m' := by
  unfold fX12_matches
  rw [hD 101 0 (by omega) (by omega) (by omega), e, if_pos rfl, hS.1, hS.2]
  have UPD : w < 10000 * (c + 1) + h → ∃ m', fX12_matches_36 N rc (zN (Z 0)) (zN c) (zN h) m = some m' ∧ DF R0 m' ∧ Lf (Z 0) (Z 0) w (10000 * (c + 1) + h) path m m' := by
    intro lt
    unfold fX12_matches_36
    obtain ⟨M, a1, a2⟩ := m50 (N := N) (rc := rc) (K := Z 0) hz (Z 0) 0 N (mI (mI m 99 56 (zN c)) 99 57 (zN h)) (by omega) (by omega)
    refine ⟨M, a1, fun c' i q1 q2 q3 => ?_, Or.inl ⟨lt, ⟨?_, ?_⟩, fun i hi => ?_, fun i q1 q2 => absurd q2 (by omega)⟩, fun i hi => ?_⟩
    · rw [a2, if_neg (by omega), mI_n (by omega), mI_n (by omega)]
      exact hD c' i q1 q2 q3
    · rw [a2, if_neg (by omega), mI_n (by omega), mI_s ⟨rfl, rfl⟩, show (10000 * (c + 1) + h) / 10000 = c + 1 from by omega, zdn]
    · rw [a2, if_neg (by omega), mI_s ⟨rfl, rfl⟩, show (10000 * (c + 1) + h) % 10000 = h from by omega]
    · rw [a2, if_pos (by omega), mI_n (by omega), mI_n (by omega)]
    · rw [a2, if_neg (by omega), mI_n (by omega), mI_n (by omega)]
  have NO : 10000 * (c + 1) + h ≤ w → ∃ m', (some m : Option Mem) = some m' ∧ DF R0 m' ∧ Lf (Z 0) (Z 0) w (10000 * (c + 1) + h) path m m' := fun le => ⟨m, rfl, hD, Or.inr ⟨le, hS, fun _ => rfl⟩, fun _ _ => rfl⟩
  by_cases q0 : w / 10000 = 0
  · rw [q0, show zN 0 + (-1 : Int32) = (-1 : Int32) from rfl, if_neg (show ¬ (zN c < (-1 : Int32)) from fun z => znn (by omega) (Int32.lt_of_lt_of_le z (by decide))), if_neg (show ¬ (zN c = (-1 : Int32)) from by rw [zN_m1 (by omega)]; exact id)]
    exact UPD (by omega)
  · obtain ⟨v, hv⟩ : ∃ v, w / 10000 = v + 1 := ⟨w / 10000 - 1, by omega⟩
    rw [hv, zdn]
    by_cases q1 : c < v
    · rw [if_pos (show zN c < zN v from by rw [zN_lt (by omega) (by omega)]; exact q1)]
      exact NO (by omega)
    · rw [if_neg (zlt (by omega) (by omega) (by omega))]
      by_cases q2 : c = v
      · rw [if_pos (by rw [q2])]
        by_cases q3 : w % 10000 < h
        · rw [if_pos (show zN (w % 10000) < zN h from by rw [zN_lt (by omega) (by omega)]; exact q3)]
          exact UPD (by omega)
        · rw [if_neg (zlt (by omega) (by omega) (by omega))]
          exact NO (by omega)
      · rw [if_neg (zne (by omega) (by omega) q2)]
        exact UPD (by omega)
theorem dfs {Z : Nat → Nat} {N o : Nat} {C0 R0 : Mem} (hN : 100 ≤ N) (hO : OrdR Z o C0 R0) (hB : BathR Z 43 0 C0 R0) : ∀ j d k s c h w m, k + j = Z 0 → j < d → s < 64 → c ≤ k → h ≤ c * 990 → w ≤ 1000000 → DF R0 m → DS w m → ∃ m', fMatR N d (zN k) (zN s) (zN c) (zN h) m = some m' ∧ DF R0 m' ∧ Lf (Z 0) k w (10000 * (c + 1) + h + MV (fitb Z N o C0) (hvb Z R0) j k s) (PV (fitb Z N o C0) (hvb Z R0) j k s) m m' := by
  have hz := hO.zb
  have hh := hvb_ok (o := o) hB
  have e0 : R0.1 101 0 = zN (Z 0) := hO.sR 0 (by omega)
  have e1 : R0.1 101 1 = zN (Z 1) := hO.sR 1 (by omega)
  intro j
  induction j with
  | zero =>
    intro d k s c h w m hk hd hs hc hh' hw hD hS
    obtain ⟨d', rfl, _⟩ := fuel hd
    have ek : k = Z 0 := by omega
    rw [ek, fMatR]
    exact leaf_ok hN (by omega) e0 hD hS (by omega) (by omega) hw
  | succ j ih =>
    intro d k s c h w m hk hd hs hc hh' hw hD hS
    obtain ⟨d', rfl, hd⟩ := fuel hd
    have MB := MV_le (fit := fitb Z N o C0) (hv := hvb Z R0) hh.1
    have GB : ∀ t, GV (fitb Z N o C0) (hvb Z R0) j k s t ≤ 65940 := by
      intro t
      unfold GV
      have q := MB j (k + 1) (s + 2 ^ t)
      have w' := hh.1 t
      split <;> omega
    have PB := pmx_le GB
    rw [fMatR]
    unfold fX12_matches
    rw [hD 101 0 (by omega) (by omega) (by omega), e0, if_neg (zne (by omega) (by omega) (by omega))]
    have key : ∀ rem t n mt, t + rem = Z 1 → rem < n → DF R0 mt → (∀ i, i < k → mt.1 134 i = m.1 134 i) → ((∃ t0, fsx (GV (fitb Z N o C0) (hvb Z R0) j k s) t = some t0 ∧ w < 10000 * (c + 1) + h + pmx (GV (fitb Z N o C0) (hvb Z R0) j k s) t ∧ DS (10000 * (c + 1) + h + pmx (GV (fitb Z N o C0) (hvb Z R0) j k s) t) mt ∧ (∀ i, i < k → mt.1 135 i = m.1 134 i) ∧ mt.1 135 k = zN t0 ∧ (∀ i, k < i → i < Z 0 → mt.1 135 i = PV (fitb Z N o C0) (hvb Z R0) j (k + 1) (s + 2 ^ t0) i)) ∨ ((fsx (GV (fitb Z N o C0) (hvb Z R0) j k s) t = none ∨ 10000 * (c + 1) + h + pmx (GV (fitb Z N o C0) (hvb Z R0) j k s) t ≤ w) ∧ DS w mt ∧ ∀ i, mt.1 135 i = m.1 135 i)) → ∃ m', fX12_matches_80 N (fMatR N d') n (zN k) (zN s) (zN c) (zN h) (zN t) mt = some m' ∧ DF R0 m' ∧ Lf (Z 0) k w (10000 * (c + 1) + h + MV (fitb Z N o C0) (hvb Z R0) (j + 1) k s) (PV (fitb Z N o C0) (hvb Z R0) (j + 1) k s) m m' := by
      intro rem
      induction rem with
      | zero =>
        intro t n mt ht hn hDt hpre hst
        obtain ⟨n', rfl, _⟩ := fuel hn
        have et : t = Z 1 := by omega
        have ST := pmx_st (g := GV (fitb Z N o C0) (hvb Z R0) j k s) (T := Z 1) (fun t ht => by
          unfold GV gA
          by_cases q : fitb Z N o C0 k t = true
          · have := fit_lt q
            omega
          · rw [Bool.not_eq_true] at q
            rw [q]
            rfl) (6 - Z 1)
        rw [show Z 1 + (6 - Z 1) = 6 from by omega] at ST
        rw [et] at hst
        rw [← ST.1, ← ST.2] at hst
        have P6 := PB 6
        have MJ := MB j (k + 1) s
        have D1 : DF R0 (mI mt 134 k (-2 : Int32)) := hDt.mI (by omega)
        rw [fX12_matches_80, hDt 101 1 (by omega) (by omega) (by omega), e1, if_pos (zle' (by omega) (by omega) (by omega)), g_in (by omega) (by omega), zN_cl (by omega), zN_s, MV_s]
        have PVk : ∀ i, k < i → PV (fitb Z N o C0) (hvb Z R0) (j + 1) k s i = PV (fitb Z N o C0) (hvb Z R0) j (k + 1) ((chx (fitb Z N o C0) (hvb Z R0) j k s).elim s (fun t => s + 2 ^ t)) i := fun i hi => by rw [PV, if_neg (by omega)]
        have PV0 : PV (fitb Z N o C0) (hvb Z R0) (j + 1) k s k = (chx (fitb Z N o C0) (hvb Z R0) j k s).elim (-2) zN := by rw [PV, if_pos rfl]
        have w1k : ∀ i, i < k → (mI mt 134 k (-2 : Int32)).1 134 i = m.1 134 i := fun i hi => by rw [mI_n (by omega)]; exact hpre i hi
        rcases hst with ⟨t0, f1, f2, f3, f4, f5, f6⟩ | ⟨f1, f3, f4⟩
        · obtain ⟨m', r1, r2, r3⟩ := ih d' (k + 1) s c h (10000 * (c + 1) + h + pmx (GV (fitb Z N o C0) (hvb Z R0) j k s) 6) (mI mt 134 k (-2 : Int32)) (by omega) (by omega) hs (by omega) hh' (by omega) D1 f3.mI
          rw [r1, b_some]
          refine ⟨m', rfl, r2, ?_, fun i hi => by rw [r3.p i (by omega)]; exact w1k i hi⟩
          rcases r3.a with ⟨g1, g2, g3, g4⟩ | ⟨g1, g2, g3⟩
          · have CH : chx (fitb Z N o C0) (hvb Z R0) j k s = none := by
              unfold chx
              rw [if_pos (by omega)]
            rw [show max (MV (fitb Z N o C0) (hvb Z R0) j (k + 1) s) (pmx (GV (fitb Z N o C0) (hvb Z R0) j k s) 6) = MV (fitb Z N o C0) (hvb Z R0) j (k + 1) s from by omega]
            refine Or.inl ⟨by omega, g2, fun i hi => by rw [g3 i (by omega)]; exact w1k i hi, fun i q1 q2 => ?_⟩
            by_cases y : i = k
            · rw [y, PV0, CH, g3 k (by omega), mI_s ⟨rfl, rfl⟩]
              rfl
            · rw [PVk i (by omega), CH, g4 i (by omega) q2]
              rfl
          · have CH : chx (fitb Z N o C0) (hvb Z R0) j k s = some t0 := by
              unfold chx
              rw [if_neg (by omega), f1]
            rw [show max (MV (fitb Z N o C0) (hvb Z R0) j (k + 1) s) (pmx (GV (fitb Z N o C0) (hvb Z R0) j k s) 6) = pmx (GV (fitb Z N o C0) (hvb Z R0) j k s) 6 from by omega]
            refine Or.inl ⟨f2, g2, fun i hi => ?_, fun i q1 q2 => ?_⟩
            · rw [g3 i, mI_n (by omega)]
              exact f4 i hi
            · rw [g3 i, mI_n (by omega)]
              by_cases y : i = k
              · rw [y, PV0, CH]
                exact f5
              · rw [PVk i (by omega), CH]
                exact f6 i (by omega) q2
        · obtain ⟨m', r1, r2, r3⟩ := ih d' (k + 1) s c h w (mI mt 134 k (-2 : Int32)) (by omega) (by omega) hs (by omega) hh' hw D1 f3.mI
          rw [r1, b_some]
          refine ⟨m', rfl, r2, ?_, fun i hi => by rw [r3.p i (by omega)]; exact w1k i hi⟩
          have pz : fsx (GV (fitb Z N o C0) (hvb Z R0) j k s) 6 = none → pmx (GV (fitb Z N o C0) (hvb Z R0) j k s) 6 = 0 := fsx_none 6
          rcases r3.a with ⟨g1, g2, g3, g4⟩ | ⟨g1, g2, g3⟩
          · have CH : chx (fitb Z N o C0) (hvb Z R0) j k s = none := by
              unfold chx
              rcases f1 with f1 | f1
              · rw [f1]
                split <;> rfl
              · rw [if_pos (by omega)]
            have EM : max (MV (fitb Z N o C0) (hvb Z R0) j (k + 1) s) (pmx (GV (fitb Z N o C0) (hvb Z R0) j k s) 6) = MV (fitb Z N o C0) (hvb Z R0) j (k + 1) s := by
              rcases f1 with f1 | f1
              · rw [pz f1]
                omega
              · omega
            rw [EM]
            refine Or.inl ⟨g1, g2, fun i hi => by rw [g3 i (by omega)]; exact w1k i hi, fun i q1 q2 => ?_⟩
            by_cases y : i = k
            · rw [y, PV0, CH, g3 k (by omega), mI_s ⟨rfl, rfl⟩]
              rfl
            · rw [PVk i (by omega), CH, g4 i (by omega) q2]
              rfl
          · refine Or.inr ⟨?_, g2, fun i => by rw [g3 i, mI_n (by omega)]; exact f4 i⟩
            rcases f1 with f1 | f1
            · rw [pz f1]
              omega
            · omega
      | succ rem ihr =>
        intro t n mt ht hn hDt hpre hst
        obtain ⟨n', rfl, hn⟩ := fuel hn
        have Pt := PB t
        have Gt := GB t
        rw [fX12_matches_80, hDt 101 1 (by omega) (by omega) (by omega), e1, if_neg (zle (by omega) (by omega) (by omega)), bit_ok (by omega) (by omega), zN_s]
        -- a tub that he can't have
        have SKIP : ∀ mt' : Mem, GV (fitb Z N o C0) (hvb Z R0) j k s t = 0 → SR mt mt' → ∃ m', fX12_matches_80 N (fMatR N d') n' (zN k) (zN s) (zN c) (zN h) (zN (t + 1)) mt' = some m' ∧ DF R0 m' ∧ Lf (Z 0) k w (10000 * (c + 1) + h + MV (fitb Z N o C0) (hvb Z R0) (j + 1) k s) (PV (fitb Z N o C0) (hvb Z R0) (j + 1) k s) m m' := by
          intro mt' g0 sr
          have e135 : ∀ i, mt'.1 135 i = mt.1 135 i := fun i => sr 135 i (by omega)
          refine ihr (t + 1) n' mt' (by omega) (by omega) (hDt.sr sr) (fun i hi => by rw [sr 134 i (by omega)]; exact hpre i hi) ?_
          rw [fsx, pmx, g0, if_neg (by omega), Nat.max_eq_left (by omega)]
          rcases hst with ⟨t0, f1, f2, f3, f4, f5, f6⟩ | ⟨f1, f3, f4⟩
          · exact Or.inl ⟨t0, f1, f2, f3.sr sr, fun i hi => by rw [e135]; exact f4 i hi, by rw [e135]; exact f5, fun i a b => by rw [e135]; exact f6 i a b⟩
          · exact Or.inr ⟨f1, f3.sr sr, fun i => by rw [e135]; exact f4 i⟩
        by_cases qb : s / 2 ^ t % 2 = 0
        · rw [qb, if_neg (show ¬ (zN 0 = (1 : Int32)) from by decide)]
          obtain ⟨m1, a1, a2⟩ := ease_ref (Z := Z) (N := N) (o := o) (C0 := C0) (R := mt) (k := k) (t := t) hN (hO.cong (fun _ _ _ => rfl) (fun c i p q => hDt c i (by omega) (by omega) (by omega))) (hB.cong (fun _ _ _ _ => rfl) rfl (fun c _ _ => hDt c _ (by omega) (by omega) (by omega)) (fun c i _ _ _ => hDt c _ (by omega) (by omega) (by omega))) (by omega) (by omega)
          rw [a1, b_some]
          by_cases qf : fitb Z N o C0 k t = true
          · have D1 : DF R0 (mI m1 134 k (zN t)) := (hDt.sr a2).mI (by omega)
            obtain ⟨o1, o2⟩ := or6 t (by omega) s hs qb
            have hb := hh.2 t (by omega)
            have hb2 := hh.1 t
            have EG : GV (fitb Z N o C0) (hvb Z R0) j k s t = 10000 + hvb Z R0 t + MV (fitb Z N o C0) (hvb Z R0) j (k + 1) (s + 2 ^ t) := by
              unfold GV gA
              rw [qf, decide_eq_true qb]
              rfl
            rw [if_pos qf, if_neg z10, g_in (k := k) (by omega) (by omega), g_in (k := t) (by omega) (by omega), zN_cl (n := k) (by omega), zN_cl (n := t) (by omega), D1 127 t (by omega) (by omega) (by omega), hb.1, (sh_ok t (by omega)).2, o1, zN_s, zN_s, zN_add]
            have w1k : ∀ i, i < k → (mI m1 134 k (zN t)).1 134 i = m.1 134 i := fun i hi => by rw [mI_n (by omega), a2 134 i (by omega)]; exact hpre i hi
            have e135 : ∀ i, (mI m1 134 k (zN t)).1 135 i = mt.1 135 i := fun i => by rw [mI_n (by omega), a2 135 i (by omega)]
            rcases hst with ⟨t0, f1, f2, f3, f4, f5, f6⟩ | ⟨f1, f3, f4⟩
            · obtain ⟨m', r1, r2, r3⟩ := ih d' (k + 1) (s + 2 ^ t) (c + 1) (h + hvb Z R0 t) (10000 * (c + 1) + h + pmx (GV (fitb Z N o C0) (hvb Z R0) j k s) t) (mI m1 134 k (zN t)) (by omega) (by omega) o2 (by omega) (by omega) (by omega) D1 (f3.sr a2).mI
              rw [r1, b_some]
              refine ihr (t + 1) n' m' (by omega) (by omega) r2 (fun i hi => by rw [r3.p i (by omega)]; exact w1k i hi) ?_
              rw [fsx, pmx]
              rcases r3.a with ⟨g1, g2, g3, g4⟩ | ⟨g1, g2, g3⟩
              · rw [if_pos (by omega), show max (pmx (GV (fitb Z N o C0) (hvb Z R0) j k s) t) (GV (fitb Z N o C0) (hvb Z R0) j k s t) = GV (fitb Z N o C0) (hvb Z R0) j k s t from by omega]
                refine Or.inl ⟨t, rfl, by omega, ?_, fun i hi => by rw [g3 i (by omega)]; exact w1k i hi, by rw [g3 k (by omega), mI_s ⟨rfl, rfl⟩], fun i a b => g4 i (by omega) b⟩
                rw [EG, show 10000 * (c + 1) + h + (10000 + hvb Z R0 t + MV (fitb Z N o C0) (hvb Z R0) j (k + 1) (s + 2 ^ t)) = 10000 * (c + 1 + 1) + (h + hvb Z R0 t) + MV (fitb Z N o C0) (hvb Z R0) j (k + 1) (s + 2 ^ t) from by omega]
                exact g2
              · rw [if_neg (by omega), show max (pmx (GV (fitb Z N o C0) (hvb Z R0) j k s) t) (GV (fitb Z N o C0) (hvb Z R0) j k s t) = pmx (GV (fitb Z N o C0) (hvb Z R0) j k s) t from by omega]
                exact Or.inl ⟨t0, f1, f2, g2, fun i hi => by rw [g3, e135]; exact f4 i hi, by rw [g3, e135]; exact f5, fun i a b => by rw [g3, e135]; exact f6 i a b⟩
            · obtain ⟨m', r1, r2, r3⟩ := ih d' (k + 1) (s + 2 ^ t) (c + 1) (h + hvb Z R0 t) w (mI m1 134 k (zN t)) (by omega) (by omega) o2 (by omega) (by omega) hw D1 (f3.sr a2).mI
              rw [r1, b_some]
              refine ihr (t + 1) n' m' (by omega) (by omega) r2 (fun i hi => by rw [r3.p i (by omega)]; exact w1k i hi) ?_
              have pz : fsx (GV (fitb Z N o C0) (hvb Z R0) j k s) t = none → pmx (GV (fitb Z N o C0) (hvb Z R0) j k s) t = 0 := fsx_none t
              have lt : w < 10000 * (c + 1) + h + GV (fitb Z N o C0) (hvb Z R0) j k s t → pmx (GV (fitb Z N o C0) (hvb Z R0) j k s) t < GV (fitb Z N o C0) (hvb Z R0) j k s t := by
                intro z
                rcases f1 with f1 | f1
                · rw [pz f1]
                  omega
                · omega
              rw [fsx, pmx]
              rcases r3.a with ⟨g1, g2, g3, g4⟩ | ⟨g1, g2, g3⟩
              · have lt := lt (by omega)
                rw [if_pos lt, show max (pmx (GV (fitb Z N o C0) (hvb Z R0) j k s) t) (GV (fitb Z N o C0) (hvb Z R0) j k s t) = GV (fitb Z N o C0) (hvb Z R0) j k s t from by omega]
                refine Or.inl ⟨t, rfl, by omega, ?_, fun i hi => by rw [g3 i (by omega)]; exact w1k i hi, by rw [g3 k (by omega), mI_s ⟨rfl, rfl⟩], fun i a b => g4 i (by omega) b⟩
                rw [EG, show 10000 * (c + 1) + h + (10000 + hvb Z R0 t + MV (fitb Z N o C0) (hvb Z R0) j (k + 1) (s + 2 ^ t)) = 10000 * (c + 1 + 1) + (h + hvb Z R0 t) + MV (fitb Z N o C0) (hvb Z R0) j (k + 1) (s + 2 ^ t) from by omega]
                exact g2
              · refine Or.inr ⟨?_, g2, fun i => by rw [g3, e135]; exact f4 i⟩
                by_cases y : pmx (GV (fitb Z N o C0) (hvb Z R0) j k s) t < GV (fitb Z N o C0) (hvb Z R0) j k s t
                · exact Or.inr (by omega)
                · rw [if_neg y]
                  rcases f1 with f1 | f1
                  · exact Or.inl f1
                  · exact Or.inr (by omega)
          · rw [if_neg qf, if_pos rfl]
            refine SKIP m1 ?_ a2
            unfold GV gA
            rw [Bool.not_eq_true] at qf
            rw [qf]
            rfl
        · rw [show s / 2 ^ t % 2 = 1 from by omega, if_pos (show zN 1 = (1 : Int32) from rfl)]
          refine SKIP mt ?_ (fun _ _ _ => rfl)
          unfold GV gA
          rw [decide_eq_false qb, Bool.and_false]
          rfl
    exact key (Z 1) 0 N m (by omega) (by omega) hD (fun _ _ => rfl) (Or.inr ⟨Or.inl rfl, hS, fun _ => rfl⟩)
