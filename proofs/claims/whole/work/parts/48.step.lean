/-! getting out and in, flinching, standing -/
/-- as FC, and the minute stays -/
def FQm (o b : Nat) (m m' : Mem) : Prop := FC o b m m' ∧ m'.1 b 9 = m.1 b 9
def FPm (o b : Nat) (m m' : Mem) : Prop := FC o b m m' ∧ m'.1 b 9 = m.1 b 9 + (1 : Int32)
theorem FQm.fc {o b : Nat} {m m' : Mem} (h : FQm o b m m') : FC o b m m' := h.1
theorem FQm.rf {o b : Nat} {m : Mem} : FQm o b m m := ⟨FC.rf, rfl⟩
theorem FQm.tr {o b : Nat} {m m' m'' : Mem} (h : FQm o b m m') (h' : FQm o b m' m'') : FQm o b m m'' := ⟨h.1.tr h'.1, h'.2.trans h.2⟩
theorem FQm.te {o b : Nat} {m m' m'' : Mem} (h : FQm o b m m') (h' : FPm o b m' m'') : FPm o b m m'' := ⟨h.1.tr h'.1, h'.2.trans (by rw [h.2])⟩
theorem FQm.mI {o b : Nat} {m : Mem} {c k : Nat} {v : Int32} (h : b ≤ c ∧ c ≤ b + 9 ∧ (c ≠ b ∨ k ≠ 9)) : FQm o b m (mI m c k v) := ⟨FC.mI (by omega), mI_n (by omega)⟩
theorem FQm.mJ {o b : Nat} {m : Mem} {c k : Nat} {v : Int64} (h : c = o + 16 ∨ c = o + 17 ∨ c = b) : FQm o b m (mJ m c k v) := ⟨FC.mJ h, rfl⟩
theorem SC.fd {o b : Nat} {m m' : Mem} (h : SC o m m') : FQm o b m m' := ⟨h.fc, by rw [h.1]⟩
theorem isKnight_1 {k : Nat} (h : k < 6) (m : Mem) : fX0_isKnight (zN k) m = some 1 := by
  unfold fX0_isKnight
  rw [if_neg (znn (by omega)), if_neg (show ¬ ((6 : Int32) ≤ zN k) from zle (a := 6) (by omega) (by omega) (by omega))]
theorem isTub_1 {k : Nat} (h : k < 6) (m : Mem) : fX0_isTub (zN k) m = some 1 := by
  unfold fX0_isTub
  rw [if_neg (znn (by omega)), if_neg (show ¬ ((6 : Int32) ≤ zN k) from zle (a := 6) (by omega) (by omega) (by omega))]
theorem isTub_m2 (m : Mem) : fX0_isTub (-2 : Int32) m = some 0 := by
  unfold fX0_isTub
  rw [if_pos (by decide)]
/-- he gets out, if he is in -/
theorem leave_rel {Z : Nat → Nat} {o b s k : Nat} {mC mR : Mem} (hB : BathR Z b s mC mR) (hk : k < 6) : ∃ mC', fX0_leave b (zN k) mC = some mC' ∧ fX12_leaves (zN s) (zN k) mR = some (mI (mI mR 129 (6 * s + k) (-1)) 130 (6 * s + k) 0) ∧ BathR Z b s mC' (mI (mI mR 129 (6 * s + k) (-1)) 130 (6 * s + k) 0) ∧ FQm o b mC mC' ∧ mC'.1 (b + 5) k = -2 ∧ (∀ t, t < 6 → mC.1 (b + 3) t = -2 → mC'.1 (b + 3) t = -2) ∧ (∀ c k', c ≠ b + 3 → (c ≠ b + 5 ∨ k' ≠ k) → (c ≠ b + 8 ∨ k' ≠ k) → mC'.1 c k' = mC.1 c k') ∧ mC'.2 = mC.2 := by
  have hz := hB.zz
  have hs := hB.hs
  have L : fX12_leaves (zN s) (zN k) mR = some (mI (mI mR 129 (6 * s + k) (-1)) 130 (6 * s + k) 0) := by
    unfold fX12_leaves
    rw [zN_6, g_in (by omega) (by omega), g_in (by omega) (by omega), zN_cl (by omega)]
  rw [L]
  unfold fX0_leave
  rw [isKnight_1 hk, b_some, if_neg (show ¬ ((1 : Int32) = 0) from by decide), g_in (by omega) (by omega), zN_cl (by omega)]
  have L30 : ∀ m : Mem, fX0_leave_30 b (zN k) m = some (mI (mI m (b + 5) k (-2)) (b + 8) k 0) := by
    intro m
    unfold fX0_leave_30
    rw [g_in (by omega) (by omega), g_in (by omega) (by omega), zN_cl (by omega)]
  rcases hB.pl k hk with ⟨p1, p2⟩ | ⟨p0, t, p1, p2, p3, p4⟩
  · rw [p1, isTub_m2, b_some, if_pos rfl, L30]
    have B1 := (hB.out1 hk p1).up (j := 3) (k := k) (by omega) hk 0 (fun z => absurd z (by omega)) (fun z => absurd z (by omega)) (fun z => absurd z (by omega))
    refine ⟨_, rfl, rfl, B1, (FQm.mI (by omega)).tr (FQm.mI (by omega)), ?_, fun t ht e => ?_, fun c k' h1 h2 h3 => ?_, rfl⟩
    · rw [mI_n (by omega), mI_s ⟨rfl, rfl⟩]
    · rw [mI_n (by omega), mI_n (by omega)]
      exact e
    · rw [mI_n (by omega), mI_n (by omega)]
  · rw [p2, isTub_1 (show t < 6 by omega), b_some, if_neg (show ¬ ((1 : Int32) = 0) from by decide), g_in (by omega) (by omega), zN_cl (by omega), L30]
    have B1 := (hB.out2 hk (show t < 6 by omega) p2).up (j := 3) (k := k) (by omega) hk 0 (fun z => absurd z (by omega)) (fun z => absurd z (by omega)) (fun z => absurd z (by omega))
    refine ⟨_, rfl, rfl, B1, ((FQm.mI (by omega)).tr (FQm.mI (by omega))).tr (FQm.mI (by omega)), ?_, fun t' ht' e => ?_, fun c k' h1 h2 h3 => ?_, rfl⟩
    · rw [mI_n (by omega), mI_s ⟨rfl, rfl⟩]
    · rw [mI_n (by omega), mI_n (by omega), mI_at]
      split
      · rfl
      · exact e
    · rw [mI_n (by omega), mI_n (by omega), mI_n (by omega)]
/-- he gets in, if nobody is there -/
theorem enter_rel {Z : Nat → Nat} {o b s k t : Nat} {mC mR : Mem} (hB : BathR Z b s mC mR) (hk : k < Z 0) (ht : t < Z 1) (hf : mC.1 (b + 3) t = -2) : ∃ mC', fX0_enter b (zN k) (zN t) mC = some (1, mC') ∧ fX12_sits (zN s) (zN k) (zN t) mR = some (mI (mI mR 129 (6 * s + k) (zN t)) 130 (6 * s + k) 0) ∧ BathR Z b s mC' (mI (mI mR 129 (6 * s + k) (zN t)) 130 (6 * s + k) 0) ∧ FQm o b mC mC' ∧ mC'.2 = mC.2 ∧ (∀ c k', c ≠ b + 3 → (c ≠ b + 5 ∨ k' ≠ k) → (c ≠ b + 8 ∨ k' ≠ k) → mC'.1 c k' = mC.1 c k') ∧ mC'.1 (b + 5) k = zN t := by
  have hz := hB.zz
  have hs := hB.hs
  have L : fX12_sits (zN s) (zN k) (zN t) mR = some (mI (mI mR 129 (6 * s + k) (zN t)) 130 (6 * s + k) 0) := by
    unfold fX12_sits
    rw [zN_6, g_in (by omega) (by omega), g_in (by omega) (by omega), zN_cl (by omega)]
  obtain ⟨mC', l1, l2, l3, l4, l5, l6, l7, l8⟩ := leave_rel (o := o) hB (show k < 6 by omega)
  have I := l3.inn hk ht l5 (l6 t (by omega) hf)
  rw [L]
  unfold fX0_enter
  rw [isKnight_1 (by omega), b_some, if_neg (show ¬ ((1 : Int32) = 0) from by decide), isTub_1 (by omega), b_some, if_neg (show ¬ ((1 : Int32) = 0) from by decide), g_in (by omega) (by omega), zN_cl (by omega), hf, if_pos (by decide), l1, b_some, g_ii (by omega) (by omega), g_in (by omega) (by omega), zN_cl (by omega)]
  refine ⟨_, rfl, rfl, ?_, (l4.tr (FQm.mI (by omega))).tr (FQm.mI (by omega)), l8, fun c k' h1 h2 h3 => ?_, mI_s ⟨rfl, rfl⟩⟩
  · refine I.cong (fun _ _ _ _ => rfl) rfl (fun c _ _ => ?_) (fun c k' _ _ _ => ?_)
    · rw [mI_n (by omega), mI_n (by omega), mI_n (by omega), mI_n (by omega), mI_n (by omega)]
    · by_cases q : c = 129 ∧ k' = k
      · rw [mI_n (by omega), mI_s (by omega), mI_s (by omega)]
      · by_cases q2 : c = 130 ∧ k' = k
        · rw [mI_s (by omega), mI_n (by omega), mI_s (by omega)]
        · rw [mI_n (by omega), mI_n (by omega), mI_n (by omega), mI_n (by omega), mI_n (by omega)]
  · rw [mI_n (by omega), mI_n (by omega), l7 c k' h1 h2 h3]
def MdR (mC mR : Mem) (yn : Int32) : Prop := (mC.1 73 2 = 0 ↔ mR.1 99 52 = 3) ∧ (mC.1 73 3 = 0 ↔ mR.1 99 52 = 4) ∧ ((mR.1 99 52 = 2 ∧ mC.1 73 1 = mR.1 99 53) ∨ (mR.1 99 52 ≠ 2 ∧ mC.1 73 1 = -1)) ∧ ((mC.1 73 0 = 0 ∧ mR.1 99 52 = 0 ∧ yn ≠ 0) ∨ (mC.1 73 0 = 1 ∧ (mR.1 99 52 = 5 ∨ (mR.1 99 52 ≠ 5 ∧ mR.1 99 52 ≠ 1 ∧ yn = 0 ∧ ¬ (mR.1 101 5 < 50)))) ∨ (mC.1 73 0 = 2 ∧ (mR.1 99 52 = 1 ∨ (mR.1 99 52 ≠ 5 ∧ mR.1 99 52 ≠ 1 ∧ yn = 0 ∧ mR.1 101 5 < 50))))
theorem MdR.ca {mC mR : Mem} {yn : Int32} (h : MdR mC mR yn) : mC.1 73 2 = 0 ↔ mR.1 99 52 = 3 := h.1
theorem MdR.co {mC mR : Mem} {yn : Int32} (h : MdR mC mR yn) : mC.1 73 3 = 0 ↔ mR.1 99 52 = 4 := h.2.1
theorem MdR.ab {mC mR : Mem} {yn : Int32} (h : MdR mC mR yn) : (mR.1 99 52 = 2 ∧ mC.1 73 1 = mR.1 99 53) ∨ (mR.1 99 52 ≠ 2 ∧ mC.1 73 1 = -1) := h.2.2.1
theorem MdR.fl {mC mR : Mem} {yn : Int32} (h : MdR mC mR yn) : (mC.1 73 0 = 0 ∧ mR.1 99 52 = 0 ∧ yn ≠ 0) ∨ (mC.1 73 0 = 1 ∧ (mR.1 99 52 = 5 ∨ (mR.1 99 52 ≠ 5 ∧ mR.1 99 52 ≠ 1 ∧ yn = 0 ∧ ¬ (mR.1 101 5 < 50)))) ∨ (mC.1 73 0 = 2 ∧ (mR.1 99 52 = 1 ∨ (mR.1 99 52 ≠ 5 ∧ mR.1 99 52 ≠ 1 ∧ yn = 0 ∧ mR.1 101 5 < 50))) := h.2.2.2
theorem MdR.fr {o b s : Nat} {mC mR mC' mR' : Mem} {yn : Int32} (h : MdR mC mR yn) (hb : b = 43 ∨ b = 53 ∨ b = 63 ∨ b = 84) (hC : FC o b mC mC') (hR : FR s mR mR') : MdR mC' mR' yn := by
  have e0 := hC.1 73 0 (by omega)
  have e1 := hC.1 73 1 (by omega)
  have e2 := hC.1 73 2 (by omega)
  have e3 := hC.1 73 3 (by omega)
  have f0 := hR 99 52 (by omega) (by omega) (by omega)
  have f1 := hR 99 53 (by omega) (by omega) (by omega)
  have f2 := hR 101 5 (by omega) (by omega) (by omega)
  refine ⟨?_, ?_, ?_, ?_⟩
  · rw [e2, f0]
    exact h.ca
  · rw [e3, f0]
    exact h.co
  · rw [e1, f0, f1]
    exact h.ab
  · rw [e0, f0, f2]
    exact h.fl
theorem draw_eq {v : Nat} (hv : v < 2147483648) : ∃ v', v' < 2147483648 ∧ ((zJ v * (1103515245 : Int64)) + (12345 : Int64)) &&& (2147483647 : Int64) = zJ v' ∧ ((zN v * (1103515245 : Int32)) + (12345 : Int32)) &&& (2147483647 : Int32) = zN v' ∧ (zJ v' / (65536 : Int64)).toInt32 = zN (v' / 65536) ∧ zN v' >>> ((16 : Int32) &&& 31) = zN (v' / 65536) := by
  refine ⟨(v * 1103515245 + 12345) % 2 ^ 31, Nat.mod_lt _ (by decide), ?_, ?_, ?_, ?_⟩
  · rw [show (1103515245 : Int64) = zJ 1103515245 from rfl, show (12345 : Int64) = zJ 12345 from rfl, zJ_mul, zJ_add]
    exact zJ_and (by omega) _ (by decide)
  · rw [show (1103515245 : Int32) = zN 1103515245 from rfl, show (12345 : Int32) = zN 12345 from rfl, zN_mul, zN_add]
    exact zN_and (by omega) _ (by decide)
  · have := Nat.mod_lt (v * 1103515245 + 12345) (show 0 < 2 ^ 31 by decide)
    rw [show (65536 : Int64) = zJ 65536 from rfl, zJ_div (by omega) (by omega), zJ_32]
  · exact zN_shr (n := 16) (Nat.mod_lt _ (by decide)) _ (by decide)
/-- whether he flinches -/
theorem flinch_rel {Z : Nat → Nat} {o b s : Nat} {yn : Int32} {mC mR : Mem} (hO : OrdR Z o mC mR) (hB : BathR Z b s mC mR) (hM : MdR mC mR yn) : ∃ e mC' mR', fX5_givesWay (mC.1 o 6) b mC = some (e, mC') ∧ fX12_doesFlinch (zN s) yn mR = some (e, mR') ∧ (e = 0 ∨ e = 1) ∧ BathR Z b s mC' mR' ∧ FQm o b mC mC' ∧ FR s mR mR' ∧ mC'.1 = mC.1 ∧ (∀ c k, c ≠ 124 → mR'.1 c k = mR.1 c k) := by
  have hs := hB.hs
  rw [hO.fl.1]
  obtain ⟨od, od1, od2, od3⟩ := hO.fl.2
  unfold fX5_givesWay fX12_doesFlinch
  have triv : ∀ e : Int32, (e = 0 ∨ e = 1) → ∃ e' mC' mR', (some (e, mC) : Option (Int32 × Mem)) = some (e', mC') ∧ (some (e, mR) : Option (Int32 × Mem)) = some (e', mR') ∧ (e' = 0 ∨ e' = 1) ∧ BathR Z b s mC' mR' ∧ FQm o b mC mC' ∧ FR s mR mR' ∧ mC'.1 = mC.1 ∧ (∀ c k, c ≠ 124 → mR'.1 c k = mR.1 c k) := fun e he => ⟨e, mC, mR, rfl, rfl, he, hB, FQm.rf, FR.rf, rfl, fun _ _ _ => rfl⟩
  rcases hM.fl with ⟨f1, f2, f3⟩ | ⟨f1, f2⟩ | ⟨f1, f2⟩
  · rw [f1, if_pos rfl, f2, if_neg (show ¬ ((0 : Int32) = 5) from by decide), if_neg (show ¬ ((0 : Int32) = 1) from by decide), if_neg f3, od3]
    by_cases q0 : od = 0
    · rw [q0]
      rw [if_pos (show zN 0 = 0 from rfl), if_pos (show zN 0 = 0 from rfl)]
      exact triv 0 (Or.inl rfl)
    · rw [if_neg (show ¬ (zN od = 0) from zne (c := 0) (by omega) (by omega) q0), if_neg (show ¬ (zN od = 0) from zne (c := 0) (by omega) (by omega) q0)]
      by_cases q1 : od = 100
      · rw [q1]
        rw [if_pos (show zN 100 = (100 : Int32) from rfl), if_pos (show zN 100 = (100 : Int32) from rfl)]
        exact triv 1 (Or.inr rfl)
      · rw [if_neg (show ¬ (zN od = (100 : Int32)) from zne (c := 100) (by omega) (by omega) q1), if_neg (show ¬ (zN od = (100 : Int32)) from zne (c := 100) (by omega) (by omega) q1)]
        obtain ⟨v, v1, v2, v3⟩ := hB.nu
        obtain ⟨v', d1, d2, d3, d4, d5⟩ := draw_eq v1
        unfold fX0_draw
        rw [g_in (by omega) (by omega), g_in (by omega) (by omega), g_in (by omega) (by omega), zN_cl (by omega), b_some, v2, v3, d2, d3, mJ_s ⟨rfl, rfl⟩, mI_s ⟨rfl, rfl⟩, d4, d5]
        dsimp only
        have B1 := hB.upN d1
        have F1 : FQm o b mC (mJ mC b 11 (zJ v')) := FQm.mJ (by omega)
        have F2 : FR s mR (mI mR 124 s (zN v')) := FR.mI (by omega)
        by_cases z : zN od ≤ jrem (zN (v' / 65536)) 100
        · rw [if_pos z, if_pos z]
          exact ⟨0, _, _, rfl, rfl, Or.inl rfl, B1, F1, F2, rfl, fun c k h => mI_n (by omega)⟩
        · rw [if_neg z, if_neg z]
          exact ⟨1, _, _, rfl, rfl, Or.inr rfl, B1, F1, F2, rfl, fun c k h => mI_n (by omega)⟩
  · rw [f1, if_neg (show ¬ ((1 : Int32) = 0) from by decide), if_pos rfl]
    rcases f2 with f2 | ⟨f2, f3, f4, f5⟩
    · rw [f2, if_pos rfl]
      exact triv 1 (Or.inr rfl)
    · rw [if_neg f2, if_neg f3, if_pos f4]
      unfold fX12_doesFlinch_41
      rw [if_neg f5]
      exact triv 1 (Or.inr rfl)
  · rw [f1, if_neg (show ¬ ((2 : Int32) = 0) from by decide), if_neg (show ¬ ((2 : Int32) = 1) from by decide)]
    rcases f2 with f2 | ⟨f2, f3, f4, f5⟩
    · rw [f2, if_neg (show ¬ ((1 : Int32) = 5) from by decide), if_pos rfl]
      exact triv 0 (Or.inl rfl)
    · rw [if_neg f2, if_neg f3, if_pos f4]
      unfold fX12_doesFlinch_41
      rw [if_pos f5]
      exact triv 0 (Or.inl rfl)
/-- he stands it: what comes of it -/
theorem stood_rel {Z : Nat → Nat} {N o b s k t : Nat} {mC mR : Mem} (hN : 100 ≤ N) (hO : OrdR Z o mC mR) (hB : BathR Z b s mC mR) (hk : k < Z 0) (ht : t < Z 1) : ∃ mC' mR', fX5_stand_88 N o b (zN k) (zN t) mC = some mC' ∧ fX12_bears_94 N (zN s) (zN k) (zN (6 * s + k)) (zN t) mR = some mR' ∧ BathR Z b s mC' mR' ∧ FQm o b mC mC' ∧ FR s mR mR' := by
  have hz := hB.zz
  have hs := hB.hs
  have hbb := hB.hb
  have ho := hO.o25
  have b4 : mC.1 (b + 6) k = mR.1 131 (6 * s + k) := hB.eq 4 k (by omega) (by omega)
  have b3 : mC.1 (b + 8) k = mR.1 130 (6 * s + k) := hB.eq 3 k (by omega) (by omega)
  unfold fX5_stand_88 fX12_bears_94
  rw [g_in (k := k) (by omega) (by omega), g_in (k := k) (by omega) (by omega), g_in (k := k) (by omega) (by omega), g_in (k := k) (by omega) (by omega), g_in (k := k) (by omega) (by omega), zN_cl (n := k) (by omega), g_in (k := 6 * s + k) (by omega) (by omega), g_in (k := 6 * s + k) (by omega) (by omega), g_in (k := 6 * s + k) (by omega) (by omega), g_in (k := 6 * s + k) (by omega) (by omega), g_in (k := 6 * s + k) (by omega) (by omega), zN_cl (n := 6 * s + k) (by omega), mI_s ⟨rfl, rfl⟩, mI_n (by omega), mI_s ⟨rfl, rfl⟩, mI_n (by omega), b4, b3]
  generalize imin (9999 : Int32) (mR.1 131 (6 * s + k) + (1 : Int32)) = x1
  generalize mR.1 130 (6 * s + k) + (1 : Int32) = x2
  have B1 := (hB.up (j := 4) (k := k) (by omega) (by omega) x1 (fun z => absurd z (by omega)) (fun z => absurd z (by omega)) (fun z => absurd z (by omega))).up (j := 3) (k := k) (by omega) (by omega) x2 (fun z => absurd z (by omega)) (fun z => absurd z (by omega)) (fun z => absurd z (by omega))
  have B1 : BathR Z b s (mI (mI mC (b + 6) k x1) (b + 8) k x2) (mI (mI mR 131 (6 * s + k) x1) 130 (6 * s + k) x2) := B1
  have F1 : FQm o b mC (mI (mI mC (b + 6) k x1) (b + 8) k x2) := (FQm.mI (by omega)).tr (FQm.mI (by omega))
  have F2 : FR s mR (mI (mI mR 131 (6 * s + k) x1) 130 (6 * s + k) x2) := (FR.mI (by omega)).tr (FR.mI (by omega))
  have O1 := hO.fr (by omega) F1.fc F2
  generalize mI (mI mC (b + 6) k x1) (b + 8) k x2 = C1 at *
  generalize mI (mI mR 131 (6 * s + k) x1) 130 (6 * s + k) x2 = R1 at *
  have W : WR N o 2 C1 R1 (fX6_worthOf N o (2 : Int32) b (zN k) (zN t) x2 C1) (fX12_calls (zN s) (zN k) (zN t) x2 R1) := worth_k (r := 2) hN O1 B1 (by omega) (by omega) hk ht
  obtain ⟨w, C2, R2, w1, w2, w3, w4, w5, w6, w7⟩ := W
  obtain ⟨v, R3, v1, v2, v3⟩ := within_rel (mC' := C2) (lo := (-9 : Int32)) (hi := (9 : Int32)) (plain := (0 : Int32)) (by decide) w6 w7
  have hsc : SC o C1 C2 := ⟨w3, w4, w5⟩
  have B2 := B1.sc ho.2 hsc v2
  rw [w1, w2, b_some, b_some, g_ii (by omega) (by omega), show fX12_within N (2 : Int32) (-9 : Int32) (9 : Int32) (0 : Int32) R2 = some (v, R3) from v1, b_some, g_ii (by omega) (by omega)]
  dsimp only
  have b2 : C2.1 (b + 4) k = R2.1 128 (6 * s + k) := by
    rw [w3, w6]
    exact B1.eq 2 k (by omega) (by omega)
  have S : ∀ y : Int32, fX5_stand_157 N b (zN k) y C2 = some (mI C2 (b + 4) k (imax 0 (imin 99 (R2.1 128 (6 * s + k) + y)))) := by
    intro y
    unfold fX5_stand_157
    have q := (within_eq (w := (R2.1 128 (6 * s + k) + y).toInt64) (lo := (0 : Int32)) (hi := (99 : Int32)) (by decide) C2).1
    rw [within_i _ (by decide)] at q
    rw [g_in (by omega) (by omega), zN_cl (by omega), b2, q, b_some, g_ii (by omega) (by omega)]
  have L : (if lg_cmp w (-9223372036854775808 : Int64) = 0 then fX5_stand_157 N b (zN k) 0 C2 else (fX5_within w (-9 : Int32) (9 : Int32) C2).bind (fun q20 => fX5_stand_157 N b (zN k) q20 C2)) = some (mI C2 (b + 4) k (imax 0 (imin 99 (R2.1 128 (6 * s + k) + v)))) := by
    rcases v3 with ⟨u1, u2⟩ | ⟨u1, u2, u3, u4⟩
    · rw [if_pos ((lg_cmp_eq _ _).mpr u1), S, u2]
    · rw [if_neg (fun z => u1 ((lg_cmp_eq _ _).mp z)), u2, b_some, S]
  rw [L]
  refine ⟨_, _, rfl, rfl, ?_, (F1.tr hsc.fd).tr (FQm.mI (by omega)), (F2.tr v2.fr).tr (FR.mI (by omega))⟩
  refine B2.up (j := 2) (k := k) (by omega) (by omega) _ (fun z => absurd z (by omega)) (fun z => absurd z (by omega)) (fun _ _ => ?_)
  have q := within_eq (w := (R2.1 128 (6 * s + k) + v).toInt64) (lo := (0 : Int32)) (hi := (99 : Int32)) (by decide) C2
  rw [within_i _ (by decide)] at q
  exact Bd_of (by omega) q.2.1 q.2.2
/-- one knight's minute in his tub -/
theorem stand_rel {Z : Nat → Nat} {N o b s k t : Nat} {yn : Int32} {mC mR : Mem} (hN : 100 ≤ N) (hO : OrdR Z o mC mR) (hB : BathR Z b s mC mR) (hM : MdR mC mR yn) (hk : k < Z 0) (ht : t < Z 1) (e1 : mC.1 (b + 5) k = zN t) (e2 : mR.1 129 (6 * s + k) = zN t) : ∃ mC' mR', fX5_stand N o b (zN k) mC = some mC' ∧ fX12_bears N (zN s) (zN k) yn mR = some mR' ∧ BathR Z b s mC' mR' ∧ FQm o b mC mC' ∧ FR s mR mR' := by
  have hz := hB.zz
  have hs := hB.hs
  have hbb := hB.hb
  have ho := hO.o25
  unfold fX5_stand fX12_bears
  rw [g_in (by omega) (by omega), zN_cl (n := k) (by omega), e1, hasTub_eq hO ht, b_some, if_neg (show ¬ ((1 : Int32) = 0) from by decide), g_ii (by omega) (by omega), zN_6, g_in (by omega) (by omega), zN_cl (n := 6 * s + k) (by omega), g_ii (k := 6 * s + k) (by omega) (by omega), e2]
  have b3 : mC.1 (b + 8) k = mR.1 130 (6 * s + k) := hB.eq 3 k (by omega) (by omega)
  obtain ⟨e, C1, R1, p1, p2, p3, p4, p5⟩ := ease_rel (st := mR.1 130 (6 * s + k)) hN hO hB hk ht
  rw [b3, p1, b_some, p2, b_some]
  dsimp only
  have B1 := hB.sc ho.2 p4 p5
  have O1 := hO.fr (b := b) (s := s) (by omega) p4.fc p5.fr
  have M1 := hM.fr (b := b) (s := s) hbb p4.fc p5.fr
  rcases p3 with rfl | rfl
  · rw [if_pos rfl, if_pos rfl]
    obtain ⟨e, C2, R2, f1, f2, f3, f4, f5, f6, f7, f8⟩ := flinch_rel O1 B1 M1
    rw [f1, f2, b_some, b_some]
    dsimp only
    rcases f3 with rfl | rfl
    · rw [if_pos rfl, if_pos rfl]
      obtain ⟨C3, R3, s1, s2, s3, s4, s5⟩ := stood_rel hN (O1.fr (by omega) f5.fc f6) f4 hk ht
      exact ⟨C3, R3, s1, s2, s3, (p4.fd.tr f5).tr s4, (p5.fr.tr f6).tr s5⟩
    · rw [if_neg (show ¬ ((1 : Int32) = 0) from by decide), if_neg (show ¬ ((1 : Int32) = 0) from by decide)]
      rw [g_ii (k := 6 * s + k) (by omega) (by omega), g_ii (k := 6 * s + k) (by omega) (by omega)]
      have B2 := f4.up (j := 6) (k := k) (by omega) (by omega) (R2.1 133 (6 * s + k) + 1) (fun z => absurd z (by omega)) (fun z => absurd z (by omega)) (fun z => absurd z (by omega))
      have bf : C2.1 (b + 9) k = R2.1 133 (6 * s + k) := f4.eq 6 k (by omega) (by omega)
      have B2 : BathR Z b s (mI C2 (b + 9) k (R2.1 133 (6 * s + k) + 1)) (mI R2 133 (6 * s + k) (R2.1 133 (6 * s + k) + 1)) := B2
      obtain ⟨C3, l1, l2, l3, l4, l5, l6, l7, l8⟩ := leave_rel (o := o) f4 (show k < 6 by omega)
      obtain ⟨C4, n1, n2, n3, n4, n5, n6, n7, n8⟩ := leave_rel (o := o) B2 (show k < 6 by omega)
      rw [l1, b_some, g_ii (k := k) (by omega) (by omega), g_ii (k := k) (by omega) (by omega), n2, b_some, l7 _ _ (by omega) (by omega) (by omega), bf]
      refine ⟨_, _, rfl, rfl, ?_, ((p4.fd.tr f5).tr l4).tr (FQm.mI (by omega)), ((p5.fr.tr f6).tr (FR.mI (by omega))).tr ((FR.mI (by omega)).tr (FR.mI (by omega)))⟩
      have B3 := l3.up (j := 6) (k := k) (by omega) (by omega) (R2.1 133 (6 * s + k) + 1) (fun z => absurd z (by omega)) (fun z => absurd z (by omega)) (fun z => absurd z (by omega))
      refine B3.cong (fun _ _ _ _ => rfl) rfl (fun c _ _ => ?_) (fun c k' _ _ _ => ?_)
      · show _ = (mI (mI (mI R2 129 (6 * s + k) (-1)) 130 (6 * s + k) 0) 133 (6 * s + k) _).1 c s
        rw [mI_n (by omega), mI_n (by omega), mI_n (by omega), mI_n (by omega), mI_n (by omega), mI_n (by omega)]
      · show _ = (mI (mI (mI R2 129 (6 * s + k) (-1)) 130 (6 * s + k) 0) 133 (6 * s + k) _).1 c (6 * s + k')
        simp only [mI_at]
        by_cases z1 : c = 129 <;> by_cases z2 : c = 130 <;> by_cases z3 : c = 133 <;> by_cases z4 : 6 * s + k' = 6 * s + k <;> simp [z1, z2, z3, z4] <;> omega
  · rw [if_neg (show ¬ ((1 : Int32) = 0) from by decide), if_neg (show ¬ ((1 : Int32) = 0) from by decide), g_ii (k := k) (by omega) (by omega), g_in (k := t) (by omega) (by omega), zN_cl (n := t) (by omega), g_ii (k := k) (by omega) (by omega), g_ii (k := 6 * s + k) (by omega) (by omega), zN_6, g_in (k := 6 * s + t) (by omega) (by omega), zN_cl (n := 6 * s + t) (by omega), g_ii (k := 6 * s + k) (by omega) (by omega)]
    have bb : C1.1 (b + 7) k = R1.1 132 (6 * s + k) := B1.eq 5 k (by omega) (by omega)
    have bh : C1.1 (b + 2) t = R1.1 127 (6 * s + t) := B1.eq 1 t (by omega) (by omega)
    rw [bb, bh]
    have B2 := B1.up (j := 5) (k := k) (by omega) (by omega) (imax (R1.1 132 (6 * s + k)) (R1.1 127 (6 * s + t))) (fun z => absurd z (by omega)) (fun z => absurd z (by omega)) (fun z => absurd z (by omega))
    have F1 : FQm o b C1 (mI C1 (b + 7) k (imax (R1.1 132 (6 * s + k)) (R1.1 127 (6 * s + t)))) := FQm.mI (by omega)
    have F2 : FR s R1 (mI R1 132 (6 * s + k) (imax (R1.1 132 (6 * s + k)) (R1.1 127 (6 * s + t)))) := FR.mI (by omega)
    obtain ⟨C3, R3, s1, s2, s3, s4, s5⟩ := stood_rel hN (O1.fr (by omega) F1.fc F2) B2 hk ht
    exact ⟨C3, R3, s1, s2, s3, (p4.fd.tr F1).tr s4, (p5.fr.tr F2).tr s5⟩
