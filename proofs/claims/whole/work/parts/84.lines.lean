/-! the five lines that tell rows -/
def LineR (N : Nat) (o n : Nat) (bt : Nat → Nat) (p : Nat) (mC mR : Mem) : Prop := (∃ mC' mR', fX8_readLine N o mC = some (0, mC') ∧ fX12_line N mR = some mR' ∧ FlR mC' mR' ∧ TFC o mC mC' ∧ TFR mR mR') ∨ (∃ Z' p' pl' s' mC' mR', fX8_readLine N o mC = some (1, mC') ∧ fX12_line N mR = some mR' ∧ LI Z' o n bt p' pl' s' mC' mR' ∧ mC'.1 o 10 = mC.1 o 10 ∧ mR'.1 99 24 = mR.1 99 24 + 1 ∧ p ≤ p' ∧ (mC'.1 5 4 = -1 ∨ p < p') ∧ TFC o mC mC' ∧ TFR mR mR')
theorem rl151_0 {N : Nat} {m : Mem} : fX8_readLine_151 N 0 m = some (0, m) := by
  unfold fX8_readLine_151
  rw [if_pos rfl]
/-- the content of a line is read on both sides: what is left is its end -/
theorem LI.fin {N : Nat} {Z' : Nat → Nat} {o n : Nat} {bt : Nat → Nat} {p p1 pl1 s1 : Nat} {mC mR M1 R1 : Mem} (hN : 1000 ≤ N) (cE : fX8_readLine N o mC = fX8_readLine_151 N 1 M1) (rE : fX12_line N mR = fX12_line_464 N R1) (h : LI Z' o n bt p1 pl1 s1 M1 R1) (hp : p ≤ p1) (e1 : M1.1 o 10 = mC.1 o 10) (e2 : R1.1 99 24 = mR.1 99 24) (fC : TFC o mC M1) (fR : TFR mR R1) : LineR N o n bt p mC mR := by
  unfold LineR
  rw [cE, rE]
  rcases semi_ok hN h with ⟨mC', mR', a1, a2, a3, a4, a5⟩ | ⟨p', pl', mC', mR', a1, a2, a3, a4, a5, a6, a7, a8, a9⟩
  · exact Or.inl ⟨mC', mR', a1, a2, a3, fC.tr a4, fR.tr a5⟩
  · exact Or.inr ⟨Z', p', pl', s1, mC', mR', a1, a2, a3, a4.trans e1, by rw [a5, e2], by omega, a7.imp id (fun z => by omega), fC.tr a8, fR.tr a9⟩
theorem rows_ok {N : Nat} {Z : Nat → Nat} {o n i : Nat} {bt : Nat → Nat} {p pl s : Nat} {mC mR : Mem} (hN : 1000 ≤ N) (hi : i < 5) (h : LI Z o n bt p pl s mC mR) (ek : mC.1 5 4 = zN i) {c0 c1 c2 : Mem → Option (Int32 × Mem)} {r0 r1 r2 : Mem → Option Mem}
    (cE : fX8_readLine N o mC = ((fX8_openRow N (o + 1 + 2 * i) mC).bind (fun q1 => if q1.1 = 0 then (some ((0 : Int32), q1.2)) else (chC (o + 1 + 2 * i) c0 c1 c2 q1.2))).bind (fun q => fX8_readLine_151 N q.1 q.2))
    (rE : Z i < mostT i → ∀ M : Mem, M.1 101 (8 + i) = zN (Z i) → fX12_token N (mI mR 99 23 ((mR.1 99 23) ||| ((1 : Int32) <<< (zN i &&& 31)))) = some M → fX12_line_71 N (zN i) mR = (chR i r0 r1 r2 M).bind (fun q => fX12_line_464 N q))
    (SS : ∀ A B, RX Z o i A B → ∃ P0 P1 P2, Rst Z o i n bt A B c0 r0 0 (fun _ => True) P0 ∧ Rst Z o i n bt A B c1 r1 1 P0 P1 ∧ Rst Z o i n bt A B c2 r2 2 P1 P2 ∧ StF r1 ∧ StF r2 ∧ ∀ vs, P2 vs → RowOk Z i vs) : LineR N o n bt p mC mR := by
  have o7 := h.o7
  have kk := h.tk.kk
  obtain ⟨so, va⟩ := (kk.wd (show i < 21 by omega)).mpr ek
  have zm := h.od.zm i hi
  have e2 : mC.1 (o + 1 + 2 * i) 2 = zN (Z i) := h.od.sC i hi
  have m12 : mostT i ≤ 12 := (lay_row h.od.ho hi).2
  have e8 : mR.1 101 (8 + i) = zN (Z i) := by
    have := h.od.sR i hi
    rw [hfM_at (by omega) (by omega)] at this
    exact this
  have IF := isFull_ok hi e8 zm
  have L : fX12_line N mR = (if Z i = mostT i then some (mI (mI mR 99 30 (zN 2)) 99 31 (mR.1 99 27)) else fX12_line_71 N (zN i) mR) := by
    unfold fX12_line
    rw [if_pos so, va, if_pos (show zN i ≤ (7 : Int32) from zle' (c := 7) (by omega) (by omega) (by omega)), IF, b_some]
    by_cases q : Z i = mostT i
    · rw [if_pos q, if_pos q, if_neg z10, show fX12_wrong (2 : Int32) mR = _ from wrong_ok (v := 2) h.fl, b_some, l71_f (FlR.mk h.tk (v := 2) (by omega)).2.2]
    · rw [if_neg q, if_neg q, if_pos rfl, if_neg (show ¬ (zN i = (5 : Int32)) from zne (c := 5) (by omega) (by omega) (by omega)), if_neg (show ¬ (zN i = (6 : Int32)) from zne (c := 6) (by omega) (by omega) (by omega))]
  by_cases q : Z i = mostT i
  · refine Or.inl ⟨_, _, ?_, by rw [L, if_pos q], FlR.mk h.tk (v := 2) (by omega), TFC.fail (by omega), TFR.fail⟩
    rw [cE]
    unfold fX8_openRow fX9_isFull
    rw [e2, h.ms i hi, if_neg (zlt (by omega) (by omega) (by omega)), b_some, if_neg z10, show fX8_fail (2 : Int32) mC = _ from fail_ok (v := 2), b_some, if_pos (Or.inl rfl), b_some, if_pos rfl, b_some, rl151_0]
  · rw [if_neg q] at L
    have TB : TkB n bt mC (mI mR 99 23 ((mR.1 99 23) ||| ((1 : Int32) <<< (zN i &&& 31)))) := h.tb.r (by omega)
    obtain ⟨MC, MR, p', pl', a1, a2, a3, a4, a5, a6, a7, a8, a9⟩ := tok_rel hN TB h.tk.nC (by rw [mI_n (by omega)]; exact h.tk.nR) h.pn
    have OR0 : fX8_openRow N (o + 1 + 2 * i) mC = some (1, MC) := by
      unfold fX8_openRow fX9_isFull
      rw [e2, h.ms i hi, if_pos (show zN (Z i) < zN (mostT i) from by rw [zN_lt (by omega) (by omega)]; omega), b_some, if_pos rfl, a1, b_some]
    have X : RX Z o i mC (mI mR 99 23 ((mR.1 99 23) ||| ((1 : Int32) <<< (zN i &&& 31)))) := ⟨h.od.ho, hi, by omega, h.od.cong3 (fun _ _ _ _ => rfl) (fun c k w1 w2 _ => by rw [hfM_at w1 w2, hfM_at w1 w2, mI_n (by omega)])⟩
    have R0 : RS Z o i n bt mC (mI mR 99 23 ((mR.1 99 23) ||| ((1 : Int32) <<< (zN i &&& 31)))) (fun _ => 0) 0 p' pl' MC MR := ⟨by rw [a9 _ _ (by omega), mI_n (by omega)]; exact h.fl, TB.cong (fun c k w1 w2 w3 => a7 c k (by omega)) (fun c k w1 w2 w3 => a9 _ _ (by omega)), a3, a5, fun q hq => absurd hq (by omega), fun cc j w1 w2 => a7 cc j (by omega), a8, fun cc j w1 w2 => a9 cc j (by omega)⟩
    obtain ⟨P0, P1, P2, S0, S1, S2, F1, F2, PR⟩ := SS _ _ X
    have RE := rE (by omega) MR (R0.s2 X hi).2 a2
    rcases row_line X S0 S1 S2 F1 F2 R0 with ⟨mC', mR', b1, b2, b3, b4, b5⟩ | ⟨vs', p1, pl1, M1, R1, b1, b2, b3, b4, b5⟩
    · refine Or.inl ⟨mC', mR', ?_, ?_, b3, b4, (TFR.up9 (by omega)).tr b5⟩
      · rw [cE, OR0, b_some, if_neg z10, b1, b_some, rl151_0]
      · rw [L, RE, b2, b_some, l464_f b3.2.2]
    · have c23 : R1.1 99 23 = ((mR.1 99 23) ||| ((1 : Int32) <<< (zN i &&& 31))) := by rw [b4.fR _ _ (by omega) (by omega), mI_s ⟨rfl, rfl⟩]
      have gC : ∀ cc j, ¬ (cc = 5 ∧ 3 ≤ j ∧ j ≤ 6) → ¬ (cc = o + 2 + 2 * i ∧ 3 * Z i ≤ j) → ¬ (cc = o + 1 + 2 * i ∧ j = 2) → (mI M1 (o + 1 + 2 * i) 2 (zN (Z i + 1))).1 cc j = mC.1 cc j := fun cc j w1 w2 w3 => by rw [mI_n (by omega), b4.fC cc j w1 w2]
      have gR : ∀ cc j, ¬ (cc = 99 ∧ 26 ≤ j ∧ j ≤ 29) → ¬ (102 + 3 * i ≤ cc ∧ cc ≤ 104 + 3 * i ∧ j = mostT i + Z i) → ¬ (cc = 101 ∧ j = 8 + i) → ¬ (cc = 99 ∧ j = 23) → (mI R1 101 (8 + i) (zN (Z i + 1))).1 cc j = mR.1 cc j := fun cc j w1 w2 w3 w4 => by rw [mI_n (by omega), b4.fR cc j w1 w2, mI_n (by omega)]
      have d23 : (mI R1 101 (8 + i) (zN (Z i + 1))).1 99 23 = ((mR.1 99 23) ||| ((1 : Int32) <<< (zN i &&& 31))) := by rw [mI_n (by omega), c23]
      refine LI.fin (Z' := upZ Z i) (s1 := s) hN (M1 := mI M1 (o + 1 + 2 * i) 2 (zN (Z i + 1))) (R1 := mI R1 101 (8 + i) (zN (Z i + 1))) (by rw [cE, OR0, b_some, if_neg z10, b1, b_some]) (by rw [L, RE, b2, b_some]) ⟨OrdR.row X b4 (PR vs' b3), ?_, b4.tk.r (fun j _ _ => mI_n (by omega)) (fun j _ _ => mI_n (by omega)), b4.pn, ?_, ?_, ?_, ?_, fun r hr => ?_, ?_, ?_, fun i' hi' => ?_⟩ (show p ≤ p1 by have := a3.lp; omega) (gC _ _ (by omega) (by omega) (by omega)) (gR _ _ (by omega) (by omega) (by omega) (by omega)) (TFC.of (fun c j w1 w2 => gC c j (by omega) (by omega) (by omega)) b4.fJ (by omega)) (fun c j w1 w2 => gR c j (by omega) (fun z => w2 ?_) (fun z => w2 ?_) (by omega))
      · exact b4.tb.cong (fun c j w1 w2 w3 => mI_n (by omega)) (fun c j w1 w2 w3 => mI_n (by omega))
      · rw [mI_n (by omega)]
        exact b4.fl
      · rw [gC _ _ (by omega) (by omega) (by omega), gC _ _ (by omega) (by omega) (by omega), gR _ _ (by omega) (by omega) (by omega) (by omega)]
        exact h.fz
      · rw [gC _ _ (by omega) (by omega) (by omega), d23, tbt_on _ (by omega) (by omega) (by omega)]
        exact h.t5
      · rw [gC _ _ (by omega) (by omega) (by omega), d23, tbt_on _ (by omega) (by omega) (by omega)]
        exact h.t6
      · rw [gC _ _ (by omega) (by omega) (by omega), gC _ _ (by omega) (by omega) (by omega), d23, tbt_on _ (by omega) (by omega) (by omega)]
        exact h.tl r hr
      · rw [gR _ _ (by omega) (by omega) (by omega) (by omega)]
        exact h.op
      · rw [gC _ _ (by omega) (by omega) (by omega), gC _ _ (by omega) (by omega) (by omega), gR _ _ (by omega) (by omega) (by omega) (by omega), gR _ _ (by omega) (by omega) (by omega) (by omega)]
        exact h.kn
      · rw [gC _ _ (by omega) (by omega) (by omega)]
        exact h.ms i' hi'
      · obtain ⟨z1, z2, z3⟩ := z
        have e := hf_row i hi (c - (102 + 3 * i)) (by omega)
        rw [show 102 + 3 * i + (c - (102 + 3 * i)) = c from by omega] at e
        omega
      · rw [z.1, z.2, show hf 101 = 8 from rfl]
        omega
theorem idx6 {c d z : Nat} {x : Int32} (e : x = zN z) (h : c + z < d) (hd : d ≤ 1000) (hc : c < 1000) : (∀ A : Option Mem, (if (zN c + x) < 0 ∨ d ≤ c + z then none else A) = A) ∧ (zN c + x).toNatClampNeg = c + z := by
  rw [e, zN_add]
  exact ⟨fun A => g_ii h (by omega), zN_cl (by omega)⟩
theorem kni_line {N : Nat} {Z : Nat → Nat} {o n : Nat} {bt : Nat → Nat} {p pl s : Nat} {mC mR : Mem} (hN : 1000 ≤ N) (h : LI Z o n bt p pl s mC mR) (ek : mC.1 5 4 = zN 0) : LineR N o n bt p mC mR := by
  refine rows_ok (i := 0) hN (by omega) h ek (c0 := fun m => fX8_readNewName N (o + 1 + 2 * 0) m) (c1 := fun m => fX8_readCell N (o + 1 + 2 * 0) (zN 1) (zN 0) (zN 99) m) (c2 := fun m => fX8_readCell N (o + 1 + 2 * 0) (zN 2) (zN 0) (zN 9) m) (r0 := fun m => (fX12_fresh N 102 (6 : Int32) (m.1 101 8) m).bind (fun q => some (mI q.2 102 (6 + Z 0) q.1))) (r1 := fun m => (fX12_numeral N (zN 0) (zN 99) m).bind (fun q => some (mI q.2 103 (6 + Z 0) q.1))) (r2 := fun m => (fX12_numeral N (zN 0) (zN 9) m).bind (fun q => some (mI q.2 104 (6 + Z 0) q.1))) ?_ ?_ ?_
  · unfold fX8_readLine
    rw [if_pos (show mC.1 5 4 = (0 : Int32) from ek)]
    rfl
  · intro hz M eM tok
    have eM : M.1 101 8 = zN (Z 0) := eM
    obtain ⟨G1, G2⟩ := idx6 (c := 6) (d := 12) eM (by have : mostT 0 = 6 := rfl; omega) (by omega) (by omega)
    have G1 : ∀ A : Option Mem, (if ((6 : Int32) + M.1 101 8) < 0 ∨ 12 ≤ 6 + Z 0 then none else A) = A := G1
    have G2 : ((6 : Int32) + M.1 101 8).toNatClampNeg = 6 + Z 0 := G2
    have fr : ∀ m : Mem, fX12_fresher (0 : Int32) m = some (m.1 101 8) := fun m => fr_ok (i := 0) (by omega) m
    have rd : ∀ (x : Int32) (m : Mem), fX12_reads (0 : Int32) x m = some (mI m 101 8 x) := fun x m => rd_ok (i := 0) (by omega) x m
    unfold fX12_line_71
    rw [if_pos h.fl, tok, b_some, if_pos (show zN 0 = (0 : Int32) from rfl)]
    simp only [chR, Option.bind_assoc, b_some, fr, rd, G1, G2]
    rfl
  · intro A B X
    exact ⟨_, _, _, new_stp hN X (by omega), num_stp hN X (c := 1) (lo := 0) (hi := 99) (by omega) (by omega) (by omega) (fun _ _ z => z), num_stp hN X (c := 2) (lo := 0) (hi := 9) (by omega) (by omega) (by omega) (fun _ _ z => z), num_f X (c := 1) (by omega), num_f X (c := 2) (by omega), fun vs z => ⟨fun _ => ⟨z.1.2, z.2⟩, fun w => absurd w (by omega), fun w => absurd w (by omega), fun w => absurd w (by omega), fun w => absurd w (by omega)⟩⟩
theorem tub_line {N : Nat} {Z : Nat → Nat} {o n : Nat} {bt : Nat → Nat} {p pl s : Nat} {mC mR : Mem} (hN : 1000 ≤ N) (h : LI Z o n bt p pl s mC mR) (ek : mC.1 5 4 = zN 1) : LineR N o n bt p mC mR := by
  refine rows_ok (i := 1) hN (by omega) h ek (c0 := fun m => fX8_readNewName N (o + 1 + 2 * 1) m) (c1 := fun m => fX8_readCell N (o + 1 + 2 * 1) (zN 1) (zN 1) (zN 99) m) (c2 := fun m => fX8_readCell N (o + 1 + 2 * 1) (zN 2) (zN 0) (zN 99) m) (r0 := fun m => (fX12_fresh N 105 (6 : Int32) (m.1 101 9) m).bind (fun q => some (mI q.2 105 (6 + Z 1) q.1))) (r1 := fun m => (fX12_numeral N (zN 1) (zN 99) m).bind (fun q => some (mI q.2 106 (6 + Z 1) q.1))) (r2 := fun m => (fX12_numeral N (zN 0) (zN 99) m).bind (fun q => some (mI q.2 107 (6 + Z 1) q.1))) ?_ ?_ ?_
  · unfold fX8_readLine
    rw [if_neg (show ¬ (mC.1 5 4 = (0 : Int32)) from by rw [ek]; decide), if_pos (show mC.1 5 4 = (1 : Int32) from ek)]
    rfl
  · intro hz M eM tok
    have eM : M.1 101 9 = zN (Z 1) := eM
    obtain ⟨G1, G2⟩ := idx6 (c := 6) (d := 12) eM (by have : mostT 1 = 6 := rfl; omega) (by omega) (by omega)
    have G1 : ∀ A : Option Mem, (if ((6 : Int32) + M.1 101 9) < 0 ∨ 12 ≤ 6 + Z 1 then none else A) = A := G1
    have G2 : ((6 : Int32) + M.1 101 9).toNatClampNeg = 6 + Z 1 := G2
    have fr : ∀ m : Mem, fX12_fresher (1 : Int32) m = some (m.1 101 9) := fun m => fr_ok (i := 1) (by omega) m
    have rd : ∀ (x : Int32) (m : Mem), fX12_reads (1 : Int32) x m = some (mI m 101 9 x) := fun x m => rd_ok (i := 1) (by omega) x m
    unfold fX12_line_71
    rw [if_pos h.fl, tok, b_some, if_neg (show ¬ (zN 1 = (0 : Int32)) from by decide), if_pos (show zN 1 = (1 : Int32) from rfl)]
    simp only [chR, Option.bind_assoc, b_some, fr, rd, G1, G2]
    rfl
  · intro A B X
    exact ⟨_, _, _, new_stp hN X (by omega), num_stp hN X (c := 1) (lo := 1) (hi := 99) (by omega) (by omega) (by omega) (fun _ _ z => z), num_stp hN X (c := 2) (lo := 0) (hi := 99) (by omega) (by omega) (by omega) (fun _ _ z => z), num_f X (c := 1) (by omega), num_f X (c := 2) (by omega), fun vs z => ⟨fun w => absurd w (by omega), fun _ => ⟨z.1.2, z.2⟩, fun w => absurd w (by omega), fun w => absurd w (by omega), fun w => absurd w (by omega)⟩⟩
theorem sit_line {N : Nat} {Z : Nat → Nat} {o n : Nat} {bt : Nat → Nat} {p pl s : Nat} {mC mR : Mem} (hN : 1000 ≤ N) (h : LI Z o n bt p pl s mC mR) (ek : mC.1 5 4 = zN 2) : LineR N o n bt p mC mR := by
  refine rows_ok (i := 2) hN (by omega) h ek (c0 := fun m => fX8_readToldName N (o + 1 + 2 * 0) (o + 1 + 2 * 2) (zN 0) m) (c1 := fun m => fX8_readToldName N (o + 1 + 2 * 1) (o + 1 + 2 * 2) (zN 1) m) (c2 := fun m => fX8_readCell N (o + 1 + 2 * 2) (zN 2) (zN 0) (zN 99) m) (r0 := fun m => (fX12_atHand N 102 (6 : Int32) (m.1 101 8) m).bind (fun q => fX12_goOn N (mI q.2 108 (12 + Z 2) q.1))) (r1 := fun m => (fX12_tubAhead N m).bind (fun q => some (mI q.2 109 (12 + Z 2) q.1))) (r2 := fun m => (fX12_numeral N (zN 0) (zN 99) m).bind (fun q => some (mI q.2 110 (12 + Z 2) q.1))) ?_ ?_ ?_
  · unfold fX8_readLine
    rw [if_neg (show ¬ (mC.1 5 4 = (0 : Int32)) from by rw [ek]; decide), if_neg (show ¬ (mC.1 5 4 = (1 : Int32)) from by rw [ek]; decide), if_pos (show mC.1 5 4 = (2 : Int32) from ek)]
    rfl
  · intro hz M eM tok
    have eM : M.1 101 10 = zN (Z 2) := eM
    obtain ⟨G1, G2⟩ := idx6 (c := 12) (d := 24) eM (by have : mostT 2 = 12 := rfl; omega) (by omega) (by omega)
    have G1 : ∀ A : Option Mem, (if ((12 : Int32) + M.1 101 10) < 0 ∨ 24 ≤ 12 + Z 2 then none else A) = A := G1
    have G2 : ((12 : Int32) + M.1 101 10).toNatClampNeg = 12 + Z 2 := G2
    have fr0 : ∀ m : Mem, fX12_fresher (0 : Int32) m = some (m.1 101 8) := fun m => fr_ok (i := 0) (by omega) m
    have fr : ∀ m : Mem, fX12_fresher (2 : Int32) m = some (m.1 101 10) := fun m => fr_ok (i := 2) (by omega) m
    have rd : ∀ (x : Int32) (m : Mem), fX12_reads (2 : Int32) x m = some (mI m 101 10 x) := fun x m => rd_ok (i := 2) (by omega) x m
    unfold fX12_line_71
    rw [if_pos h.fl, tok, b_some, if_neg (show ¬ (zN 2 = (0 : Int32)) from by decide), if_neg (show ¬ (zN 2 = (1 : Int32)) from by decide), if_pos (show zN 2 = (2 : Int32) from rfl)]
    simp only [chR, Option.bind_assoc, b_some, fr, fr0, rd, G1, G2]
    rfl
  · intro A B X
    exact ⟨_, _, _, hand_stp hN X (c := 0) (by omega), ahead_stp hN X (c := 1) (by omega) (fun _ _ z => z), num_stp hN X (c := 2) (lo := 0) (hi := 99) (by omega) (by omega) (by omega) (fun _ _ z => z), ahead_f X (c := 1) (by omega), num_f X (c := 2) (by omega), fun vs z => ⟨fun w => absurd w (by omega), fun w => absurd w (by omega), fun _ => by
      obtain ⟨⟨⟨w, w1, w2⟩, ⟨t, t1, t2⟩⟩, _⟩ := z
      exact ⟨w, t, w1, t1, w2, t2⟩, fun w => absurd w (by omega), fun w => absurd w (by omega)⟩⟩
theorem can_line {N : Nat} {Z : Nat → Nat} {o n : Nat} {bt : Nat → Nat} {p pl s : Nat} {mC mR : Mem} (hN : 1000 ≤ N) (h : LI Z o n bt p pl s mC mR) (ek : mC.1 5 4 = zN 3) : LineR N o n bt p mC mR := by
  refine rows_ok (i := 3) hN (by omega) h ek (c0 := fun m => fX8_readToldName N (o + 1 + 2 * 1) (o + 1 + 2 * 3) (zN 0) m) (c1 := fun m => fX8_readCell N (o + 1 + 2 * 3) (zN 1) (zN 1) (zN 9) m) (c2 := fun m => fX8_readCell N (o + 1 + 2 * 3) (zN 2) (zN 0) (zN 99) m) (r0 := fun m => (fX12_tubAhead N m).bind (fun q => some (mI q.2 111 (10 + Z 3) q.1))) (r1 := fun m => (fX12_numeral N (zN 1) (zN 9) m).bind (fun q => some (mI q.2 112 (10 + Z 3) q.1))) (r2 := fun m => (fX12_numeral N (zN 0) (zN 99) m).bind (fun q => some (mI q.2 113 (10 + Z 3) q.1))) ?_ ?_ ?_
  · unfold fX8_readLine
    rw [if_neg (show ¬ (mC.1 5 4 = (0 : Int32)) from by rw [ek]; decide), if_neg (show ¬ (mC.1 5 4 = (1 : Int32)) from by rw [ek]; decide), if_neg (show ¬ (mC.1 5 4 = (2 : Int32)) from by rw [ek]; decide), if_pos (show mC.1 5 4 = (3 : Int32) from ek)]
    rfl
  · intro hz M eM tok
    have eM : M.1 101 11 = zN (Z 3) := eM
    obtain ⟨G1, G2⟩ := idx6 (c := 10) (d := 20) eM (by have : mostT 3 = 10 := rfl; omega) (by omega) (by omega)
    have G1 : ∀ A : Option Mem, (if ((10 : Int32) + M.1 101 11) < 0 ∨ 20 ≤ 10 + Z 3 then none else A) = A := G1
    have G2 : ((10 : Int32) + M.1 101 11).toNatClampNeg = 10 + Z 3 := G2
    have fr : ∀ m : Mem, fX12_fresher (3 : Int32) m = some (m.1 101 11) := fun m => fr_ok (i := 3) (by omega) m
    have rd : ∀ (x : Int32) (m : Mem), fX12_reads (3 : Int32) x m = some (mI m 101 11 x) := fun x m => rd_ok (i := 3) (by omega) x m
    unfold fX12_line_71
    rw [if_pos h.fl, tok, b_some, if_neg (show ¬ (zN 3 = (0 : Int32)) from by decide), if_neg (show ¬ (zN 3 = (1 : Int32)) from by decide), if_neg (show ¬ (zN 3 = (2 : Int32)) from by decide), if_pos (show zN 3 = (3 : Int32) from rfl)]
    simp only [chR, Option.bind_assoc, b_some, fr, rd, G1, G2]
    rfl
  · intro A B X
    exact ⟨_, _, _, ahead_stp hN X (c := 0) (by omega) (H := fun _ => True) (fun _ _ z => z), num_stp hN X (c := 1) (lo := 1) (hi := 9) (by omega) (by omega) (by omega) (fun _ _ z => z), num_stp hN X (c := 2) (lo := 0) (hi := 99) (by omega) (by omega) (by omega) (fun _ _ z => z), num_f X (c := 1) (by omega), num_f X (c := 2) (by omega), fun vs z => ⟨fun w => absurd w (by omega), fun w => absurd w (by omega), fun w => absurd w (by omega), fun _ => by
      obtain ⟨⟨⟨_, ⟨t, t1, t2⟩⟩, b⟩, _⟩ := z
      exact ⟨t, t1, t2, b⟩, fun w => absurd w (by omega)⟩⟩
theorem pip_line {N : Nat} {Z : Nat → Nat} {o n : Nat} {bt : Nat → Nat} {p pl s : Nat} {mC mR : Mem} (hN : 1000 ≤ N) (h : LI Z o n bt p pl s mC mR) (ek : mC.1 5 4 = zN 4) : LineR N o n bt p mC mR := by
  have hz4 : Z 4 ≤ 8 := h.od.zm 4 (by omega)
  refine rows_ok (i := 4) hN (by omega) h ek (c0 := fun m => fX8_readToldName N (o + 1 + 2 * 1) (o + 1 + 2 * 4) (zN 0) m) (c1 := fun m => if (m.1 5 4) = (-3 : Int32) then ((fX9_find N (o + 3) (m.1 5 6) m).bind (fun q17 => (fX9_cell (o + 9) (m.1 (o + 9) 2) (0 : Int32) m).bind (fun q19 => if q17 = q19 then ((fX8_fail (5 : Int32) m).bind (fun q22 => if q22.1 = 0 ∨ q22.1 = 1 then (some (q22.1, q22.2)) else none)) else (fX8_readToldName N (o + 3) (o + 9) (1 : Int32) m)))) else (fX8_readToldName N (o + 3) (o + 9) (1 : Int32) m)) (c2 := fun m => fX8_readCell N (o + 1 + 2 * 4) (zN 2) (zN 1) (zN 9) m) (r0 := fun m => (fX12_tubAhead N m).bind (fun q => some (mI q.2 114 (8 + Z 4) q.1))) (r1 := fun m => (fX12_atHand N 105 (6 : Int32) (m.1 101 9) m).bind (fun q => if ((mI q.2 115 (8 + Z 4) q.1).1 99 30) = 0 then (if ((mI q.2 115 (8 + Z 4) q.1).1 115 (8 + Z 4)) = ((mI q.2 115 (8 + Z 4) q.1).1 114 (8 + Z 4)) then ((fX12_wrong (5 : Int32) (mI q.2 115 (8 + Z 4) q.1)).bind (fun q24 => fX12_goOn N q24)) else (fX12_goOn N (mI q.2 115 (8 + Z 4) q.1))) else (fX12_goOn N (mI q.2 115 (8 + Z 4) q.1)))) (r2 := fun m => (fX12_numeral N (zN 1) (zN 9) m).bind (fun q => some (mI q.2 116 (8 + Z 4) q.1))) ?_ ?_ ?_
  · unfold fX8_readLine
    rw [if_neg (show ¬ (mC.1 5 4 = (0 : Int32)) from by rw [ek]; decide), if_neg (show ¬ (mC.1 5 4 = (1 : Int32)) from by rw [ek]; decide), if_neg (show ¬ (mC.1 5 4 = (2 : Int32)) from by rw [ek]; decide), if_neg (show ¬ (mC.1 5 4 = (3 : Int32)) from by rw [ek]; decide), if_pos (show mC.1 5 4 = (4 : Int32) from ek)]
    have E : fX8_readPipe N o (o + 9) mC = (fX8_openRow N (o + 9) mC).bind (fun q1 => if q1.1 = 0 then (some ((0 : Int32), q1.2)) else (chC (o + 9) (fun m => fX8_readToldName N (o + 3) (o + 9) (0 : Int32) m) (fun m => if (m.1 5 4) = (-3 : Int32) then ((fX9_find N (o + 3) (m.1 5 6) m).bind (fun q17 => (fX9_cell (o + 9) (m.1 (o + 9) 2) (0 : Int32) m).bind (fun q19 => if q17 = q19 then ((fX8_fail (5 : Int32) m).bind (fun q22 => if q22.1 = 0 ∨ q22.1 = 1 then (some (q22.1, q22.2)) else none)) else (fX8_readToldName N (o + 3) (o + 9) (1 : Int32) m)))) else (fX8_readToldName N (o + 3) (o + 9) (1 : Int32) m)) (fun m => fX8_readCell N (o + 9) (2 : Int32) (1 : Int32) (9 : Int32) m) q1.2)) := by
      unfold fX8_readPipe chC
      congr 1
      funext q1
      split
      · rfl
      · congr 1
        funext q4
        split
        · rfl
        · dsimp only
          by_cases w : q4.2.1 5 4 = (-3 : Int32)
          · rw [if_pos w, if_pos w, Option.bind_assoc]
            congr 1
            funext q17
            rw [Option.bind_assoc]
            congr 1
            funext q19
            by_cases y : q17 = q19
            · rw [if_pos y, if_pos y, show fX8_fail (5 : Int32) q4.2 = _ from fail_ok (v := 5), b_some, if_pos (Or.inl rfl), b_some, if_pos rfl]
            · rw [if_neg y, if_neg y]
              rfl
          · rw [if_neg w, if_neg w]
            rfl
    rw [E]
    rfl
  · intro hz M eM tok
    have eM : M.1 101 12 = zN (Z 4) := eM
    obtain ⟨G1, G2⟩ := idx6 (c := 8) (d := 16) eM (by have : mostT 4 = 8 := rfl; omega) (by omega) (by omega)
    have G1 : ∀ A : Option Mem, (if ((8 : Int32) + M.1 101 12) < 0 ∨ 16 ≤ 8 + Z 4 then none else A) = A := G1
    have G2 : ((8 : Int32) + M.1 101 12).toNatClampNeg = 8 + Z 4 := G2
    have fr1 : ∀ m : Mem, fX12_fresher (1 : Int32) m = some (m.1 101 9) := fun m => fr_ok (i := 1) (by omega) m
    have fr : ∀ m : Mem, fX12_fresher (4 : Int32) m = some (m.1 101 12) := fun m => fr_ok (i := 4) (by omega) m
    have rd : ∀ (x : Int32) (m : Mem), fX12_reads (4 : Int32) x m = some (mI m 101 12 x) := fun x m => rd_ok (i := 4) (by omega) x m
    unfold fX12_line_71
    rw [if_pos h.fl, tok, b_some, if_neg (show ¬ (zN 4 = (0 : Int32)) from by decide), if_neg (show ¬ (zN 4 = (1 : Int32)) from by decide), if_neg (show ¬ (zN 4 = (2 : Int32)) from by decide), if_neg (show ¬ (zN 4 = (3 : Int32)) from by decide), if_pos (show zN 4 = (4 : Int32) from rfl)]
    have E67 : ∀ m : Mem, fX12_pipeLine_67 N ((8 : Int32) + M.1 101 12) m = (fX12_goOn N m).bind (fun m => ((fX12_numeral N (zN 1) (zN 9) m).bind (fun q => some (mI q.2 116 (8 + Z 4) q.1))).bind (fun m => some (mI m 101 12 (m.1 101 12 + (1 : Int32))))) := by
      intro m
      unfold fX12_pipeLine_67
      simp only [Option.bind_assoc, b_some, fr, rd, G1, G2]
      rfl
    unfold fX12_pipeLine
    simp only [chR, Option.bind_assoc, b_some, fr, fr1, rd, G1, G2]
    congr 1
    funext q3
    congr 1
    funext q8
    by_cases w : (mI q8.2 115 (8 + Z 4) q8.1).1 99 30 = 0
    · simp only [if_pos w]
      by_cases y : (mI q8.2 115 (8 + Z 4) q8.1).1 115 (8 + Z 4) = (mI q8.2 115 (8 + Z 4) q8.1).1 114 (8 + Z 4)
      · simp only [if_pos y, Option.bind_assoc, E67, b_some]
      · simp only [if_neg y, Option.bind_assoc, E67, b_some]
    · simp only [if_neg w, Option.bind_assoc, E67, b_some]
  · intro A B X
    refine ⟨_, _, _, ahead_stp hN X (c := 0) (by omega) (H := fun _ => True) (fun _ _ z => z), ?_, num_stp hN X (c := 2) (lo := 1) (hi := 9) (by omega) (by omega) (by omega) (H := fun vs => ∃ f t, f < Z 1 ∧ t < Z 1 ∧ f ≠ t ∧ vs 0 = zN f ∧ vs 1 = zN t) (fun _ _ z => z), pipe_f hz4, num_f X (c := 2) (by omega), fun vs z => ⟨fun w => absurd w (by omega), fun w => absurd w (by omega), fun w => absurd w (by omega), fun w => absurd w (by omega), fun _ => by
      obtain ⟨⟨f, t, w1, w2, w3, w4, w5⟩, b⟩ := z
      exact ⟨f, t, w1, w2, w3, w4, w5, b⟩⟩⟩
    intro vs p pl mC mR hv hs
    exact pipe_stp hN X vs p pl mC mR hv.2 hs
