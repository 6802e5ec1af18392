/-! a minute -/
theorem cans_rel {Z : Nat → Nat} {N o b s : Nat} {yn : Int32} {k62 : Int32 → Int32 → Mem → Option Mem} : ∀ rem c nC nR mC mR, c + rem = Z 3 → rem < nC → rem < nR → OrdR Z o mC mR → BathR Z b s mC mR → mR.1 99 52 ≠ 3 → ∃ mC' mR', fX5_bringCans_2 N nC (o + 7) b (zN c) mC = some mC' ∧ fX12_passes_2 N k62 nR (zN s) yn (zN c) mR = k62 (zN s) yn mR' ∧ BathR Z b s mC' mR' ∧ FQm o b mC mC' ∧ FR s mR mR' := by
  intro rem
  induction rem with
  | zero =>
    intro c nC nR mC mR hc hnC hnR hO hB hw
    obtain ⟨nC', rfl, _⟩ := fuel hnC
    obtain ⟨nR', rfl, _⟩ := fuel hnR
    have hz := hO.zb
    have e1 : mC.1 (o + 7) 2 = zN (Z 3) := hO.sC 3 (by omega)
    have e2 : mR.1 101 3 = zN (Z 3) := hO.sR 3 (by omega)
    refine ⟨mC, mR, ?_, ?_, hB, FQm.rf, FR.rf⟩
    · rw [fX5_bringCans_2, e1, if_pos (zle' (by omega) (by omega) (by omega))]
    · rw [fX12_passes_2, e2, if_pos (zle' (by omega) (by omega) (by omega))]
  | succ rem ih =>
    intro c nC nR mC mR hc hnC hnR hO hB hw
    obtain ⟨nC', rfl, hnC⟩ := fuel hnC
    obtain ⟨nR', rfl, hnR⟩ := fuel hnR
    have hz := hO.zb
    have hs := hB.hs
    have hb := hB.hb
    have e1 : mC.1 (o + 7) 2 = zN (Z 3) := hO.sC 3 (by omega)
    have e2 : mR.1 101 3 = zN (Z 3) := hO.sR 3 (by omega)
    have c0 : fX9_cell (o + 7) (zN c) (0 : Int32) mC = some (mR.1 111 c) := (cell_eq (c := 0) (n := 30) hO.lay.2.2.2.1 (by omega) (by omega)).trans (congrArg some (hO.rw 3 c 0 (by omega) (by omega) (by omega)))
    have c1 : fX9_cell (o + 7) (zN c) (1 : Int32) mC = some (mR.1 112 c) := (cell_eq (c := 1) (n := 30) hO.lay.2.2.2.1 (by omega) (by omega)).trans (congrArg some (hO.rw 3 c 1 (by omega) (by omega) (by omega)))
    have c2 : fX9_cell (o + 7) (zN c) (2 : Int32) mC = some (mR.1 113 c) := (cell_eq (c := 2) (n := 30) hO.lay.2.2.2.1 (by omega) (by omega)).trans (congrArg some (hO.rw 3 c 2 (by omega) (by omega) (by omega)))
    obtain ⟨t, t1, t2, m, m1, m2, m3⟩ := hO.ca c (by omega)
    rw [fX5_bringCans_2, e1, if_neg (zle (by omega) (by omega) (by omega)), c0, b_some, c1, b_some, c2, b_some, zN_s, hB.mi]
    rw [fX12_passes_2, e2, if_neg (zle (by omega) (by omega) (by omega)), if_neg hw, g_in (k := c) (by omega) (by omega), g_in (k := s) (by omega) (by omega), g_in (k := c) (by omega) (by omega), g_in (k := c) (by omega) (by omega), zN_cl (n := c) (by omega), zN_cl (n := s) (by omega), zN_s, t2, m3]
    have go : ∀ C1 R1 : Mem, BathR Z b s C1 R1 → FQm o b mC C1 → FR s mR R1 → ∃ mC' mR', fX5_bringCans_2 N nC' (o + 7) b (zN (c + 1)) C1 = some mC' ∧ fX12_passes_2 N k62 nR' (zN s) yn (zN (c + 1)) R1 = k62 (zN s) yn mR' ∧ BathR Z b s mC' mR' ∧ FQm o b mC mC' ∧ FR s mR mR' := by
      intro C1 R1 h1 h2 h3
      obtain ⟨C2, R2, q1, q2, q3, q4, q5⟩ := ih (c + 1) nC' nR' C1 R1 (by omega) (by omega) (by omega) (hO.fr (by omega) h2.fc h3) h1 (by rw [h3 99 52 (by omega) (by omega) (by omega)]; exact hw)
      exact ⟨C2, R2, q1, q2, q3, h2.tr q4, h3.tr q5⟩
    by_cases q : mR.1 113 c = mR.1 123 s
    · rw [if_pos q, if_pos q]
      rcases pour_rel (g := 990) hB t1 ⟨m1, by omega⟩ (by omega) with ⟨p1, p2, p3⟩ | ⟨p1, p2, v, w, p3, p4, p5⟩
      · rw [p1, b_some, if_pos rfl, show fX12_mixes (zN s) (zN t) (zN m) (990 : Int32) mR = some (0, mR) from p2, b_some]
        exact go mC mR hB FQm.rf FR.rf
      · rw [p1, b_some, if_neg (show ¬ ((1 : Int32) = 0) from by decide), show fX0_pourIn b (zN t) (zN m) (990 : Int32) mC = _ from p3, b_some, show fX12_mixes (zN s) (zN t) (zN m) (990 : Int32) mR = _ from p4, b_some]
        exact go _ _ p5 ((FQm.mI (by omega)).tr (FQm.mI (by omega))) ((FR.mI (by omega)).tr (FR.mI (by omega)))
    · rw [if_neg q, if_neg q]
      exact go mC mR hB FQm.rf FR.rf
theorem imin_sub {p l : Nat} (hp : p ≤ 9) (hl : 1 ≤ l ∧ l ≤ 999) : imin (zN p) (zN l - (1 : Int32)) = zN (min p (l - 1)) := by
  rw [show (1 : Int32) = zN 1 from rfl, zN_sub hl.1]
  unfold imin
  by_cases q : l - 1 < p
  · rw [if_pos (by rw [zN_lt (by omega) (by omega)]; exact q), Nat.min_eq_right (by omega)]
  · rw [if_neg (by rw [zN_lt (by omega) (by omega)]; exact q), Nat.min_eq_left (by omega)]
theorem pipes_rel {Z : Nat → Nat} {N o b s : Nat} {yn : Int32} {k86 : Int32 → Int32 → Mem → Option Mem} : ∀ rem c nC nR mC mR, c + rem = Z 4 → rem < nC → rem < nR → OrdR Z o mC mR → BathR Z b s mC mR → ∃ mC' mR', fX5_runPipes_2 N nC (o + 9) b (zN c) mC = some mC' ∧ fX12_passes_64 N k86 nR (zN s) yn (zN c) mR = k86 (zN s) yn mR' ∧ BathR Z b s mC' mR' ∧ FQm o b mC mC' ∧ FR s mR mR' := by
  intro rem
  induction rem with
  | zero =>
    intro c nC nR mC mR hc hnC hnR hO hB
    obtain ⟨nC', rfl, _⟩ := fuel hnC
    obtain ⟨nR', rfl, _⟩ := fuel hnR
    have hz := hO.zb
    have e1 : mC.1 (o + 9) 2 = zN (Z 4) := hO.sC 4 (by omega)
    have e2 : mR.1 101 4 = zN (Z 4) := hO.sR 4 (by omega)
    refine ⟨mC, mR, ?_, ?_, hB, FQm.rf, FR.rf⟩
    · rw [fX5_runPipes_2, e1, if_pos (zle' (by omega) (by omega) (by omega))]
    · rw [fX12_passes_64, e2, if_pos (zle' (by omega) (by omega) (by omega))]
  | succ rem ih =>
    intro c nC nR mC mR hc hnC hnR hO hB
    obtain ⟨nC', rfl, hnC⟩ := fuel hnC
    obtain ⟨nR', rfl, hnR⟩ := fuel hnR
    have hz := hO.zb
    have hs := hB.hs
    have hb := hB.hb
    have e1 : mC.1 (o + 9) 2 = zN (Z 4) := hO.sC 4 (by omega)
    have e2 : mR.1 101 4 = zN (Z 4) := hO.sR 4 (by omega)
    have c0 : fX9_cell (o + 9) (zN c) (0 : Int32) mC = some (mR.1 114 c) := (cell_eq (c := 0) (n := 24) hO.lay.2.2.2.2 (by omega) (by omega)).trans (congrArg some (hO.rw 4 c 0 (by omega) (by omega) (by omega)))
    have c1 : fX9_cell (o + 9) (zN c) (1 : Int32) mC = some (mR.1 115 c) := (cell_eq (c := 1) (n := 24) hO.lay.2.2.2.2 (by omega) (by omega)).trans (congrArg some (hO.rw 4 c 1 (by omega) (by omega) (by omega)))
    have c2 : fX9_cell (o + 9) (zN c) (2 : Int32) mC = some (mR.1 116 c) := (cell_eq (c := 2) (n := 24) hO.lay.2.2.2.2 (by omega) (by omega)).trans (congrArg some (hO.rw 4 c 2 (by omega) (by omega) (by omega)))
    obtain ⟨f, t, f1, t1, ne, f2, t2, p, p1, p2, p3⟩ := hO.pi c (by omega)
    obtain ⟨l, l1, l2, l3⟩ := hB.li f f1
    obtain ⟨h, h1, h2, h3⟩ := hB.he f f1
    have b0 : mC.1 (b + 1) f = zN l := (hB.eq 0 f (by omega) (by omega)).trans l3
    have b1 : mC.1 (b + 2) f = zN h := (hB.eq 1 f (by omega) (by omega)).trans h3
    rw [f2] at c0
    rw [t2] at c1
    rw [p3] at c2
    rw [fX5_runPipes_2, e1, if_neg (zle (by omega) (by omega) (by omega)), c0, b_some, c1, b_some, if_neg (znn (by omega)), if_pos (show zN f < (6 : Int32) from by rw [show (6 : Int32) = zN 6 from rfl, zN_lt (by omega) (by omega)]; omega), c2, b_some, g_in (by omega) (by omega), zN_cl (n := f) (by omega), b0, b1, imin_sub p2 ⟨l1, l2⟩, zN_s]
    rw [fX12_passes_64, e2, if_neg (zle (by omega) (by omega) (by omega)), zN_s]
    have F : fX12_flows (zN s) (zN c) mR = (if zN (min p (l - 1)) ≤ 0 then some mR else (fX12_mixes (zN s) (zN t) (zN (min p (l - 1))) (zN h) mR).bind (fun q7 => if q7.1 = 0 then some q7.2 else some (mI q7.2 126 (6 * s + f) (q7.2.1 126 (6 * s + f) - zN (min p (l - 1)))))) := by
      unfold fX12_flows
      rw [g_in (k := c) (by omega) (by omega), g_in (k := c) (by omega) (by omega), zN_cl (n := c) (by omega), f2, t2, p3, zN_6, g_in (k := 6 * s + f) (by omega) (by omega), zN_cl (n := 6 * s + f) (by omega), l3, h3, imin_sub p2 ⟨l1, l2⟩, g_ii (k := c) (by omega) (by omega), g_ii (k := 6 * s + f) (by omega) (by omega)]
      congr 2
      funext q7
      rw [g_ii (k := 6 * s + f) (by omega) (by omega), g_ii (k := 6 * s + f) (by omega) (by omega)]
    rw [F]
    generalize hx : min p (l - 1) = x
    have go : ∀ C1 R1 : Mem, BathR Z b s C1 R1 → FQm o b mC C1 → FR s mR R1 → ∃ mC' mR', fX5_runPipes_2 N nC' (o + 9) b (zN (c + 1)) C1 = some mC' ∧ fX12_passes_64 N k86 nR' (zN s) yn (zN (c + 1)) R1 = k86 (zN s) yn mR' ∧ BathR Z b s mC' mR' ∧ FQm o b mC mC' ∧ FR s mR mR' := by
      intro C1 R1 h1 h2 h3
      obtain ⟨C2, R2, q1, q2, q3, q4, q5⟩ := ih (c + 1) nC' nR' C1 R1 (by omega) (by omega) (by omega) (hO.fr (by omega) h2.fc h3) h1
      exact ⟨C2, R2, q1, q2, q3, h2.tr q4, h3.tr q5⟩
    by_cases q : x = 0
    · rw [q, if_pos (show zN 0 ≤ (0 : Int32) from by decide), if_pos (show zN 0 ≤ (0 : Int32) from by decide), b_some]
      exact go mC mR hB FQm.rf FR.rf
    · have nx : ¬ (zN x ≤ (0 : Int32)) := by
        rw [show (0 : Int32) = zN 0 from rfl]
        exact zle (by omega) (by omega) (by omega)
      rw [if_neg nx, if_neg nx]
      rcases pour_rel (m := x) (g := h) hB t1 ⟨by omega, by omega⟩ h2 with ⟨y1, y2, y3⟩ | ⟨y1, y2, v, w, y3, y4, y5⟩
      · rw [y1, b_some, if_pos rfl, y2, b_some]
        dsimp only
        rw [if_pos rfl, b_some]
        exact go mC mR hB FQm.rf FR.rf
      · rw [y1, b_some, if_neg (show ¬ ((1 : Int32) = 0) from by decide), g_ii (k := f) (by omega) (by omega), y3, b_some, y4, b_some, g_ii (k := f) (by omega) (by omega), g_ii (k := f) (by omega) (by omega)]
        dsimp only
        rw [if_neg (show ¬ ((1 : Int32) = 0) from by decide), b_some]
        have z1 : (mI (mI mC (b + 2) t v) (b + 1) t w).1 (b + 1) f = zN l := by
          rw [mI_n (by omega), mI_n (by omega), b0]
        have z2 : (mI (mI mR 127 (6 * s + t) v) 126 (6 * s + t) w).1 126 (6 * s + f) = zN l := by
          rw [mI_n (by omega), mI_n (by omega), l3]
        rw [z1, z2, zN_sub (by omega)]
        have B2 := y5.up (j := 0) (k := f) (by omega) (by omega) (zN (l - x)) (fun _ _ => ⟨_, by omega, by omega, rfl⟩) (fun z => absurd z (by omega)) (fun z => absurd z (by omega))
        exact go _ _ B2 (((FQm.mI (by omega)).tr (FQm.mI (by omega))).tr (FQm.mI (by omega))) (((FR.mI (by omega)).tr (FR.mI (by omega))).tr (FR.mI (by omega)))
theorem cool_rel {Z : Nat → Nat} {N o b s : Nat} {yn : Int32} {k118 : Int32 → Int32 → Mem → Option Mem} (hN : 100 ≤ N) : ∀ rem c nC nR mC mR, c + rem = Z 1 → rem < nC → rem < nR → OrdR Z o mC mR → BathR Z b s mC mR → mR.1 99 52 ≠ 4 → ∃ mC' mR', fX5_coolTubs_2 N nC o b (zN c) mC = some mC' ∧ fX12_passes_88 N k118 nR (zN s) yn (zN c) mR = k118 (zN s) yn mR' ∧ BathR Z b s mC' mR' ∧ FQm o b mC mC' ∧ FR s mR mR' := by
  intro rem
  induction rem with
  | zero =>
    intro c nC nR mC mR hc hnC hnR hO hB hw
    obtain ⟨nC', rfl, _⟩ := fuel hnC
    obtain ⟨nR', rfl, _⟩ := fuel hnR
    have hz := hO.zb
    have e1 : mC.1 (o + 3) 2 = zN (Z 1) := hO.sC 1 (by omega)
    have e2 : mR.1 101 1 = zN (Z 1) := hO.sR 1 (by omega)
    refine ⟨mC, mR, ?_, ?_, hB, FQm.rf, FR.rf⟩
    · rw [fX5_coolTubs_2, e1, if_pos (zle' (by omega) (by omega) (by omega))]
    · rw [fX12_passes_88, e2, if_pos (zle' (by omega) (by omega) (by omega))]
  | succ rem ih =>
    intro c nC nR mC mR hc hnC hnR hO hB hw
    obtain ⟨nC', rfl, hnC⟩ := fuel hnC
    obtain ⟨nR', rfl, hnR⟩ := fuel hnR
    have hz := hO.zb
    have hs := hB.hs
    have hb := hB.hb
    have ho := hO.o25
    have e1 : mC.1 (o + 3) 2 = zN (Z 1) := hO.sC 1 (by omega)
    have e2 : mR.1 101 1 = zN (Z 1) := hO.sR 1 (by omega)
    have W : WR N o 0 mC mR (fX6_worthOf N o (0 : Int32) b (-1 : Int32) (zN c) (0 : Int32) mC) (fX12_calls (zN s) (-1 : Int32) (zN c) 0 mR) := worth_n hN hO hB (by omega)
    obtain ⟨w, C1, R1, w1, w2, w3, w4, w5, w6, w7⟩ := W
    obtain ⟨h, h1, h2, h3⟩ := hB.he c (by omega)
    have b1 : mC.1 (b + 2) c = zN h := (hB.eq 1 c (by omega) (by omega)).trans h3
    obtain ⟨v, R2, v1, v2, v3⟩ := within_rel (mC' := C1) (lo := (0 : Int32)) (hi := (99 : Int32)) (plain := imax (0 : Int32) ((zN h - (200 : Int32)) / (50 : Int32))) (by decide) w6 w7
    have hsc : SC o mC C1 := ⟨w3, w4, w5⟩
    have B1 := hB.sc ho.2 hsc v2
    have vb : Bd v 0 99 := by
      rcases v3 with ⟨u1, u2⟩ | ⟨u1, u2, u3, u4⟩
      · rw [u2]
        have q := plain_ok h (by omega)
        exact Bd_of (by omega) q.1 q.2
      · exact Bd_of (by omega) u3 u4
    obtain ⟨l, l1, l2, l3⟩ := vb
    rw [fX5_coolTubs_2, e1, if_neg (zle (by omega) (by omega) (by omega)), if_neg (show ¬ ((6 : Int32) ≤ zN c) from zle (a := 6) (by omega) (by omega) (by omega)), w1, b_some]
    dsimp only
    rw [g_in (by omega) (by omega), zN_cl (n := c) (by omega), w3, b1]
    rw [fX12_passes_88, e2, if_neg (zle (by omega) (by omega) (by omega)), if_neg hw, zN_s]
    unfold fX12_loses
    rw [w2, b_some, zN_6, g_in (by omega) (by omega), g_in (by omega) (by omega), zN_cl (n := 6 * s + c) (by omega), w6, h3, show fX12_within N (0 : Int32) (0 : Int32) (99 : Int32) (imax (0 : Int32) ((zN h - (200 : Int32)) / (50 : Int32))) R1 = some (v, R2) from v1, b_some, g_ii (by omega) (by omega), b_some]
    dsimp only
    have K : ∀ k2 : Nat → Nat → Int32 → Mem → Option Mem, fX5_coolTubs_64 N k2 o b (zN c) v C1 = k2 o b (zN (c + 1)) (mI C1 (b + 2) c (zN (h - l))) := by
      intro k2
      unfold fX5_coolTubs_64
      rw [g_in (by omega) (by omega), g_in (by omega) (by omega), zN_cl (n := c) (by omega), w3, b1, l3, imax0 (by omega) (by omega), zN_s]
    have L : (if lg_cmp w (-9223372036854775808 : Int64) = 0 then fX5_coolTubs_64 N (fun x0 x1 x2 m => fX5_coolTubs_2 N nC' x0 x1 x2 m) o b (zN c) (imax (0 : Int32) ((zN h - (200 : Int32)) / (50 : Int32))) C1 else (fX5_within w (0 : Int32) (99 : Int32) C1).bind (fun q6 => fX5_coolTubs_64 N (fun x0 x1 x2 m => fX5_coolTubs_2 N nC' x0 x1 x2 m) o b (zN c) q6 C1)) = fX5_coolTubs_2 N nC' o b (zN (c + 1)) (mI C1 (b + 2) c (zN (h - l))) := by
      rcases v3 with ⟨u1, u2⟩ | ⟨u1, u2, u3, u4⟩
      · rw [if_pos ((lg_cmp_eq _ _).mpr u1), ← u2, K]
      · rw [if_neg (fun z => u1 ((lg_cmp_eq _ _).mp z)), u2, b_some, K]
    rw [L, l3, imax0 (by omega) (by omega)]
    have B2 := B1.up (j := 1) (k := c) (by omega) (by omega) (zN (h - l)) (fun z => absurd z (by omega)) (fun _ _ => ⟨_, by omega, by omega, rfl⟩) (fun z => absurd z (by omega))
    have F1 : FQm o b mC (mI C1 (b + 2) c (zN (h - l))) := hsc.fd.tr (FQm.mI (by omega))
    have F2 : FR s mR (mI R2 127 (6 * s + c) (zN (h - l))) := v2.fr.tr (FR.mI (by omega))
    obtain ⟨C2, R3, q1, q2, q3, q4, q5⟩ := ih (c + 1) nC' nR' _ _ (by omega) (by omega) (by omega) (hO.fr (by omega) F1.fc F2) B2 (by rw [F2 99 52 (by omega) (by omega) (by omega)]; exact hw)
    exact ⟨C2, R3, q1, q2, q3, F1.tr q4, F2.tr q5⟩
theorem cool_no {Z : Nat → Nat} {N o s : Nat} {yn : Int32} {k118 : Int32 → Int32 → Mem → Option Mem} {mC mR : Mem} (hO : OrdR Z o mC mR) (hw : mR.1 99 52 = 4) : ∀ rem c nR, c + rem = Z 1 → rem < nR → fX12_passes_88 N k118 nR (zN s) yn (zN c) mR = k118 (zN s) yn mR := by
  have hz := hO.zb
  have e2 : mR.1 101 1 = zN (Z 1) := hO.sR 1 (by omega)
  intro rem
  induction rem with
  | zero =>
    intro c nR hc hnR
    obtain ⟨nR', rfl, _⟩ := fuel hnR
    rw [fX12_passes_88, e2, if_pos (zle' (by omega) (by omega) (by omega))]
  | succ rem ih =>
    intro c nR hc hnR
    obtain ⟨nR', rfl, hnR⟩ := fuel hnR
    rw [fX12_passes_88, e2, if_neg (zle (by omega) (by omega) (by omega)), if_pos hw, zN_s]
    exact ih (c + 1) nR' (by omega) (by omega)
theorem who_no {Z : Nat → Nat} {N o s t : Nat} {mC mR : Mem} (hO : OrdR Z o mC mR) (hs : s ≤ 22) (h : ∀ j, j < Z 0 → mR.1 129 (6 * s + j) ≠ zN t) : ∀ rem i n, i + rem = Z 0 → rem < n → fX12_whoIn_2 N n (zN s) (zN t) (zN i) mR = some (-1) := by
  have hz := hO.zb
  have e2 : mR.1 101 0 = zN (Z 0) := hO.sR 0 (by omega)
  intro rem
  induction rem with
  | zero =>
    intro i n hi hn
    obtain ⟨n', rfl, _⟩ := fuel hn
    rw [fX12_whoIn_2, e2, if_pos (zle' (by omega) (by omega) (by omega))]
  | succ rem ih =>
    intro i n hi hn
    obtain ⟨n', rfl, hn⟩ := fuel hn
    rw [fX12_whoIn_2, e2, if_neg (zle (by omega) (by omega) (by omega)), zN_6, g_in (by omega) (by omega), zN_cl (by omega), if_neg (h i (by omega)), zN_s]
    exact ih (i + 1) n' (by omega) (by omega)
theorem who_yes {Z : Nat → Nat} {N o s t k : Nat} {mC mR : Mem} (hO : OrdR Z o mC mR) (hs : s ≤ 22) (hk : k < Z 0) (h : ∀ j, j < k → mR.1 129 (6 * s + j) ≠ zN t) (e : mR.1 129 (6 * s + k) = zN t) : ∀ rem i n, i + rem = k → rem < n → fX12_whoIn_2 N n (zN s) (zN t) (zN i) mR = some (zN k) := by
  have hz := hO.zb
  have e2 : mR.1 101 0 = zN (Z 0) := hO.sR 0 (by omega)
  intro rem
  induction rem with
  | zero =>
    intro i n hi hn
    obtain ⟨n', rfl, _⟩ := fuel hn
    have hi : i = k := by omega
    subst hi
    rw [fX12_whoIn_2, e2, if_neg (zle (by omega) (by omega) (by omega)), zN_6, g_in (by omega) (by omega), zN_cl (by omega), if_pos e]
  | succ rem ih =>
    intro i n hi hn
    obtain ⟨n', rfl, hn⟩ := fuel hn
    rw [fX12_whoIn_2, e2, if_neg (zle (by omega) (by omega) (by omega)), zN_6, g_in (by omega) (by omega), zN_cl (by omega), if_neg (h i (by omega)), zN_s]
    exact ih (i + 1) n' (by omega) (by omega)
/-- who is in a tub, as both know it -/
theorem who_rel {Z : Nat → Nat} {N o b s t : Nat} {mC mR : Mem} (hN : 100 ≤ N) (hO : OrdR Z o mC mR) (hB : BathR Z b s mC mR) (ht : t < Z 1) : (mC.1 (b + 3) t = -2 ∧ fX12_whoIn N (zN s) (zN t) mR = some (-1)) ∨ ∃ k, k < Z 0 ∧ mC.1 (b + 3) t = zN k ∧ fX12_whoIn N (zN s) (zN t) mR = some (zN k) := by
  have hz := hO.zb
  have key : ∀ j, j < Z 0 → mR.1 129 (6 * s + j) = zN t → mC.1 (b + 3) t = zN j := by
    intro j hj e
    rcases hB.pl j (by omega) with ⟨p1, p2⟩ | ⟨p0, t', p1, p2, p3, p4⟩
    · rw [p2] at e
      have e := e.symm
      rw [zN_m1 (by omega)] at e
      exact e.elim
    · rw [p3, zN_eq (by omega) (by omega)] at e
      rw [← e]
      exact p4
  rcases hB.ho t (by omega) with q | ⟨k, k1, k2, k3⟩
  · left
    refine ⟨q, who_no hO hB.hs (fun j hj e => ?_) (Z 0) 0 N (by omega) (by omega)⟩
    have z := key j hj e
    rw [q] at z
    have z := z.symm
    rw [zN_m2 (by omega)] at z
    exact z
  · right
    refine ⟨k, k1, k2, who_yes hO hB.hs k1 (fun j hj e => ?_) ?_ k 0 N (by omega) (by omega)⟩
    · have z := key j (by omega) e
      rw [k2, zN_eq (by omega) (by omega)] at z
      omega
    · rcases hB.pl k (by omega) with ⟨p1, p2⟩ | ⟨p0, t', p1, p2, p3, p4⟩
      · rw [p1] at k3
        have z := k3.symm
        rw [zN_m2 (by omega)] at z
        exact z.elim
      · rw [p2] at k3
        rw [p3]
        exact k3
theorem enter_no {b k t : Nat} {mC : Mem} {h : Nat} (hk : k < 6) (ht : t < 6) (hh : h < 6) (e : mC.1 (b + 3) t = zN h) : fX0_enter b (zN k) (zN t) mC = some (0, mC) := by
  unfold fX0_enter
  rw [isKnight_1 hk, b_some, if_neg (show ¬ ((1 : Int32) = 0) from by decide), isTub_1 ht, b_some, if_neg (show ¬ ((1 : Int32) = 0) from by decide), g_in (by omega) (by omega), zN_cl (by omega), e, if_neg (znn (by omega))]
theorem seat_rel {Z : Nat → Nat} {N o b s : Nat} {yn : Int32} {k220 : Int32 → Int32 → Mem → Option Mem} (hN : 100 ≤ N) : ∀ rem c nC nR mC mR, c + rem = Z 2 → rem < nC → rem < nR → OrdR Z o mC mR → BathR Z b s mC mR → MdR mC mR yn → ∃ mC' mR', fX5_seatKnights_2 N nC (o + 5) b (zN c) mC = some mC' ∧ fX12_passes_120 N k220 nR (zN s) yn (zN c) mR = k220 (zN s) yn mR' ∧ BathR Z b s mC' mR' ∧ FQm o b mC mC' ∧ FR s mR mR' := by
  intro rem
  induction rem with
  | zero =>
    intro c nC nR mC mR hc hnC hnR hO hB hM
    obtain ⟨nC', rfl, _⟩ := fuel hnC
    obtain ⟨nR', rfl, _⟩ := fuel hnR
    have hz := hO.zb
    have e1 : mC.1 (o + 5) 2 = zN (Z 2) := hO.sC 2 (by omega)
    have e2 : mR.1 101 2 = zN (Z 2) := hO.sR 2 (by omega)
    refine ⟨mC, mR, ?_, ?_, hB, FQm.rf, FR.rf⟩
    · rw [fX5_seatKnights_2, e1, if_pos (zle' (by omega) (by omega) (by omega))]
    · rw [fX12_passes_120, e2, if_pos (zle' (by omega) (by omega) (by omega))]
  | succ rem ih =>
    intro c nC nR mC mR hc hnC hnR hO hB hM
    obtain ⟨nC', rfl, hnC⟩ := fuel hnC
    obtain ⟨nR', rfl, hnR⟩ := fuel hnR
    have hz := hO.zb
    have hs := hB.hs
    have hb := hB.hb
    have ho := hO.o25
    have e1 : mC.1 (o + 5) 2 = zN (Z 2) := hO.sC 2 (by omega)
    have e2 : mR.1 101 2 = zN (Z 2) := hO.sR 2 (by omega)
    have c0 : fX9_cell (o + 5) (zN c) (0 : Int32) mC = some (mR.1 108 c) := (cell_eq (c := 0) (n := 36) hO.lay.2.2.1 (by omega) (by omega)).trans (congrArg some (hO.rw 2 c 0 (by omega) (by omega) (by omega)))
    have c1 : fX9_cell (o + 5) (zN c) (1 : Int32) mC = some (mR.1 109 c) := (cell_eq (c := 1) (n := 36) hO.lay.2.2.1 (by omega) (by omega)).trans (congrArg some (hO.rw 2 c 1 (by omega) (by omega) (by omega)))
    have c2 : fX9_cell (o + 5) (zN c) (2 : Int32) mC = some (mR.1 110 c) := (cell_eq (c := 2) (n := 36) hO.lay.2.2.1 (by omega) (by omega)).trans (congrArg some (hO.rw 2 c 2 (by omega) (by omega) (by omega)))
    obtain ⟨w, t, w1, t1, w2, t2⟩ := hO.st c (by omega)
    rw [w2] at c0
    rw [t2] at c1
    have go : ∀ C1 R1 : Mem, BathR Z b s C1 R1 → FQm o b mC C1 → FR s mR R1 → ∃ mC' mR', fX5_seatKnights_2 N nC' (o + 5) b (zN (c + 1)) C1 = some mC' ∧ fX12_passes_120 N k220 nR' (zN s) yn (zN (c + 1)) R1 = k220 (zN s) yn mR' ∧ BathR Z b s mC' mR' ∧ FQm o b mC mC' ∧ FR s mR mR' := by
      intro C1 R1 h1 h2 h3
      obtain ⟨C2, R2, q1, q2, q3, q4, q5⟩ := ih (c + 1) nC' nR' C1 R1 (by omega) (by omega) (by omega) (hO.fr (by omega) h2.fc h3) h1 (hM.fr hb h2.fc h3)
      exact ⟨C2, R2, q1, q2, q3, h2.tr q4, h3.tr q5⟩
    have X : ∃ mC' mR', (fX0_enter b (zN w) (zN t) mC).bind (fun q10 => if q10.1 = 0 then (fX5_seatKnights_2 N nC' (o + 5) b (zN (c + 1)) (mI q10.2 b 10 ((q10.2.1 b 10) + (1 : Int32)))) else (fX5_seatKnights_2 N nC' (o + 5) b (zN (c + 1)) q10.2)) = some mC' ∧ fX12_passes_169 N (fun x1 x2 x3 m => fX12_passes_120 N k220 nR' x1 x2 x3 m) (zN s) yn (zN c) mR = k220 (zN s) yn mR' ∧ BathR Z b s mC' mR' ∧ FQm o b mC mC' ∧ FR s mR mR' := by
      unfold fX12_passes_169
      rw [g_in (k := c) (by omega) (by omega), g_in (k := s) (by omega) (by omega), g_in (k := s) (by omega) (by omega), zN_cl (n := c) (by omega), zN_cl (n := s) (by omega), w2, t2, zN_s]
      rcases who_rel hN hO hB t1 with ⟨h1, h2⟩ | ⟨k, h1, h2, h3⟩
      · obtain ⟨C1, l1, l2, l3, l4, l5, l6, l7⟩ := enter_rel (o := o) hB w1 t1 h1
        rw [l1, b_some, h2, b_some, if_pos rfl, g_ii (k := c) (by omega) (by omega), g_ii (k := c) (by omega) (by omega), l2, b_some]
        dsimp only
        rw [if_neg (show ¬ ((1 : Int32) = 0) from by decide)]
        exact go _ _ l3 l4 ((FR.mI (by omega)).tr (FR.mI (by omega)))
      · rw [enter_no (by omega) (by omega) (show k < 6 by omega) h2, b_some, h3, b_some, if_neg (show ¬ (zN k = (-1 : Int32)) from by rw [zN_m1 (by omega)]; exact id)]
        dsimp only
        rw [if_pos rfl, hB.so]
        exact go _ _ (hB.upS _) (FQm.mI (by omega)) (FR.mI (by omega))
    rw [fX5_seatKnights_2, e1, if_neg (zle (by omega) (by omega) (by omega)), c0, b_some, c2, b_some, c1, b_some, zN_s, hB.mi]
    rw [fX12_passes_120, e2, if_neg (zle (by omega) (by omega) (by omega)), g_in (k := c) (by omega) (by omega), g_in (k := s) (by omega) (by omega), g_in (k := c) (by omega) (by omega), zN_cl (n := c) (by omega), zN_cl (n := s) (by omega), zN_s, w2]
    by_cases q : mR.1 110 c = mR.1 123 s
    · rw [if_pos q, if_pos q]
      rcases hM.ab with ⟨m1, m2⟩ | ⟨m1, m2⟩
      · rw [if_pos m1, m2]
        by_cases z : zN w = mR.1 99 53
        · rw [if_pos z, if_pos z]
          exact go mC mR hB FQm.rf FR.rf
        · rw [if_neg z, if_neg z]
          exact X
      · rw [if_neg m1, m2, if_neg (show ¬ (zN w = (-1 : Int32)) from by rw [zN_m1 (by omega)]; exact id)]
        exact X
    · rw [if_neg q, if_neg q]
      exact go mC mR hB FQm.rf FR.rf
theorem last_rel {Z : Nat → Nat} {N o b s : Nat} {yn : Int32} (hN : 100 ≤ N) : ∀ rem c nC nR mC mR, c + rem = Z 0 → rem < nC → rem < nR → OrdR Z o mC mR → BathR Z b s mC mR → MdR mC mR yn → ∃ mC' mR', fX5_pass_46 N (fX5_pass_85 N) nC o b (zN c) mC = some mC' ∧ fX12_passes_222 N nR (zN s) yn (zN c) mR = some mR' ∧ BathR Z b s mC' mR' ∧ FPm o b mC mC' ∧ FR s mR mR' := by
  intro rem
  induction rem with
  | zero =>
    intro c nC nR mC mR hc hnC hnR hO hB hM
    obtain ⟨nC', rfl, _⟩ := fuel hnC
    obtain ⟨nR', rfl, _⟩ := fuel hnR
    have hz := hO.zb
    have hs := hB.hs
    have e1 : mC.1 (o + 1) 2 = zN (Z 0) := hO.sC 0 (by omega)
    have e2 : mR.1 101 0 = zN (Z 0) := hO.sR 0 (by omega)
    rw [fX5_pass_46, e1, if_pos (zle' (by omega) (by omega) (by omega)), fX12_passes_222, e2, if_pos (zle' (by omega) (by omega) (by omega)), g_in (by omega) (by omega), g_in (by omega) (by omega), zN_cl (by omega)]
    unfold fX5_pass_85
    rw [hB.mi]
    exact ⟨_, _, rfl, rfl, hB.upM _, ⟨FC.mI (by omega), by rw [mI_s ⟨rfl, rfl⟩, hB.mi]⟩, FR.mI (by omega)⟩
  | succ rem ih =>
    intro c nC nR mC mR hc hnC hnR hO hB hM
    obtain ⟨nC', rfl, hnC⟩ := fuel hnC
    obtain ⟨nR', rfl, hnR⟩ := fuel hnR
    have hz := hO.zb
    have hs := hB.hs
    have hb := hB.hb
    have e1 : mC.1 (o + 1) 2 = zN (Z 0) := hO.sC 0 (by omega)
    have e2 : mR.1 101 0 = zN (Z 0) := hO.sR 0 (by omega)
    have go : ∀ C1 R1 : Mem, BathR Z b s C1 R1 → FQm o b mC C1 → FR s mR R1 → ∃ mC' mR', fX5_pass_46 N (fX5_pass_85 N) nC' o b (zN (c + 1)) C1 = some mC' ∧ fX12_passes_222 N nR' (zN s) yn (zN (c + 1)) R1 = some mR' ∧ BathR Z b s mC' mR' ∧ FPm o b mC mC' ∧ FR s mR mR' := by
      intro C1 R1 h1 h2 h3
      obtain ⟨C2, R2, q1, q2, q3, q4, q5⟩ := ih (c + 1) nC' nR' C1 R1 (by omega) (by omega) (by omega) (hO.fr (by omega) h2.fc h3) h1 (hM.fr hb h2.fc h3)
      exact ⟨C2, R2, q1, q2, q3, h2.te q4, h3.tr q5⟩
    rw [fX5_pass_46, e1, if_neg (zle (by omega) (by omega) (by omega)), if_neg (show ¬ ((6 : Int32) ≤ zN c) from zle (a := 6) (by omega) (by omega) (by omega)), g_in (k := c) (by omega) (by omega), zN_cl (n := c) (by omega), zN_s]
    rw [fX12_passes_222, e2, if_neg (zle (by omega) (by omega) (by omega)), zN_6, g_in (k := 6 * s + c) (by omega) (by omega), zN_cl (n := 6 * s + c) (by omega), zN_s]
    rcases hB.pl c (by omega) with ⟨p1, p2⟩ | ⟨p0, t, p1, p2, p3, p4⟩
    · rw [p1, if_pos (by decide), p2, if_pos rfl]
      exact go mC mR hB FQm.rf FR.rf
    · rw [p2, if_neg (znn (by omega)), p3, if_neg (show ¬ (zN t = (-1 : Int32)) from by rw [zN_m1 (by omega)]; exact id)]
      obtain ⟨C1, R1, s1, s2, s3, s4, s5⟩ := stand_rel hN hO hB hM p0 p1 p2 p3
      rw [s1, s2, b_some, b_some]
      exact go C1 R1 s3 s4 s5
/-- A MINUTE on both sides -/
theorem pass_relE {Z : Nat → Nat} {N o b s : Nat} {yn : Int32} {mC mR : Mem} (hN : 100 ≤ N) (hO : OrdR Z o mC mR) (hB : BathR Z b s mC mR) (hM : MdR mC mR yn) : ∃ mC' mR', fX5_pass N o b mC = some mC' ∧ fX12_passes N (zN s) yn mR = some mR' ∧ BathR Z b s mC' mR' ∧ FPm o b mC mC' ∧ FR s mR mR' := by
  have hz := hO.zb
  have hb := hB.hb
  have s5 : ∀ C1 R1 : Mem, BathR Z b s C1 R1 → FQm o b mC C1 → FR s mR R1 → ∃ mC' mR', fX5_pass_35 N o b C1 = some mC' ∧ fX12_passes_118 N (zN s) yn R1 = some mR' ∧ BathR Z b s mC' mR' ∧ FPm o b mC mC' ∧ FR s mR mR' := by
    intro C1 R1 h1 h2 h3
    obtain ⟨C2, R2, q1, q2, q3, q4, q5⟩ := seat_rel (k220 := fX12_passes_220 N) hN (Z 2) 0 N N C1 R1 (by omega) (by omega) (by omega) (hO.fr (by omega) h2.fc h3) h1 (hM.fr hb h2.fc h3)
    obtain ⟨C3, R3, r1, r2, r3, r4, r5⟩ := last_rel hN (Z 0) 0 N N C2 R2 (by omega) (by omega) (by omega) (hO.fr (by omega) (h2.tr q4).fc (h3.tr q5)) q3 (hM.fr hb (h2.tr q4).fc (h3.tr q5))
    refine ⟨C3, R3, ?_, ?_, r3, (h2.tr q4).te r4, (h3.tr q5).tr r5⟩
    · unfold fX5_pass_35 fX5_seatKnights
      rw [show fX5_seatKnights_2 N N (o + 5) b (0 : Int32) C1 = some C2 from q1, b_some]
      exact r1
    · unfold fX12_passes_118
      exact q2.trans r2
  have s4 : ∀ C1 R1 : Mem, BathR Z b s C1 R1 → FQm o b mC C1 → FR s mR R1 → ∃ mC' mR', fX5_pass_15 N o b C1 = some mC' ∧ fX12_passes_62 N (zN s) yn R1 = some mR' ∧ BathR Z b s mC' mR' ∧ FPm o b mC mC' ∧ FR s mR mR' := by
    intro C1 R1 h1 h2 h3
    obtain ⟨C2, R2, q1, q2, q3, q4, q5⟩ := pipes_rel (N := N) (yn := yn) (k86 := fX12_passes_86 N) (Z 4) 0 N N C1 R1 (by omega) (by omega) (by omega) (hO.fr (by omega) h2.fc h3) h1
    have O2 := hO.fr (by omega) (h2.tr q4).fc (h3.tr q5)
    have M2 := hM.fr hb (h2.tr q4).fc (h3.tr q5)
    unfold fX5_pass_15 fX5_runPipes fX12_passes_62
    rw [show fX5_runPipes_2 N N (o + 9) b (0 : Int32) C1 = some C2 from q1, b_some, show fX12_passes_64 N (fX12_passes_86 N) N (zN s) yn (0 : Int32) R1 = fX12_passes_86 N (zN s) yn R2 from q2]
    unfold fX12_passes_86
    by_cases z : R2.1 99 52 = 4
    · rw [if_pos (M2.co.mpr z), show fX12_passes_88 N (fX12_passes_118 N) N (zN s) yn (0 : Int32) R2 = fX12_passes_118 N (zN s) yn R2 from cool_no O2 z (Z 1) 0 N (by omega) (by omega)]
      exact s5 C2 R2 q3 (h2.tr q4) (h3.tr q5)
    · rw [if_neg (fun w => z (M2.co.mp w))]
      obtain ⟨C3, R3, r1, r2, r3, r4, r5⟩ := cool_rel (yn := yn) (k118 := fX12_passes_118 N) hN (Z 1) 0 N N C2 R2 (by omega) (by omega) (by omega) O2 q3 z
      unfold fX5_coolTubs
      rw [show fX5_coolTubs_2 N N o b (0 : Int32) C2 = some C3 from r1, b_some, show fX12_passes_88 N (fX12_passes_118 N) N (zN s) yn (0 : Int32) R2 = fX12_passes_118 N (zN s) yn R3 from r2]
      exact s5 C3 R3 r3 ((h2.tr q4).tr r4) ((h3.tr q5).tr r5)
  unfold fX5_pass fX12_passes
  by_cases z : mR.1 99 52 = 3
  · rw [if_pos (hM.ca.mpr z)]
    obtain ⟨n', hn, _⟩ := fuel (show 0 < N by omega)
    have e2 : mR.1 101 3 = zN (Z 3) := hO.sR 3 (by omega)
    have L : fX12_passes_2 N (fX12_passes_62 N) N (zN s) yn (0 : Int32) mR = fX12_passes_62 N (zN s) yn mR := by
      have q : fX12_passes_2 N (fX12_passes_62 N) (n' + 1) (zN s) yn (0 : Int32) mR = fX12_passes_62 N (zN s) yn mR := by
        rw [fX12_passes_2, if_pos z]
        by_cases y : mR.1 101 3 ≤ 0
        · rw [if_pos y]
        · rw [if_neg y]
      rw [← hn] at q
      exact q
    rw [L]
    exact s4 mC mR hB FQm.rf FR.rf
  · rw [if_neg (fun w => z (hM.ca.mp w))]
    obtain ⟨C1, R1, q1, q2, q3, q4, q5⟩ := cans_rel (N := N) (yn := yn) (k62 := fX12_passes_62 N) (Z 3) 0 N N mC mR (by omega) (by omega) (by omega) hO hB z
    unfold fX5_bringCans
    rw [show fX5_bringCans_2 N N (o + 7) b (0 : Int32) mC = some C1 from q1, b_some, show fX12_passes_2 N (fX12_passes_62 N) N (zN s) yn (0 : Int32) mR = fX12_passes_62 N (zN s) yn R1 from q2]
    exact s4 C1 R1 q3 q4 q5
theorem pass_rel {Z : Nat → Nat} {N o b s : Nat} {yn : Int32} {mC mR : Mem} (hN : 100 ≤ N) (hO : OrdR Z o mC mR) (hB : BathR Z b s mC mR) (hM : MdR mC mR yn) : ∃ mC' mR', fX5_pass N o b mC = some mC' ∧ fX12_passes N (zN s) yn mR = some mR' ∧ BathR Z b s mC' mR' ∧ FC o b mC mC' ∧ FR s mR mR' := by
  obtain ⟨C, R, q1, q2, q3, q4, q5⟩ := pass_relE hN hO hB hM
  exact ⟨C, R, q1, q2, q3, q4.1, q5⟩
