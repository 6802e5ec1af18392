/-! the laws' worth: both machines of a stack in step -/
def Sm (x : Int64) : Prop := -1000000000000 ≤ x.toInt ∧ x.toInt ≤ 1000000000000
abbrev lMIN : Int64 := -9223372036854775808
theorem Sm_not {x : Int64} (h : Sm x) : x ≠ lMIN := by
  intro q
  rw [q] at h
  have h := h.1
  rw [show (lMIN).toInt = -9223372036854775808 from rfl] at h
  omega
theorem Sm_0 : Sm 0 := ⟨by decide, by decide⟩
theorem Sm_1 : Sm 1 := ⟨by decide, by decide⟩
theorem Sm_i (x : Int32) : Sm x.toInt64 := by
  have h1 := x.le_toInt
  have h2 := x.toInt_lt
  unfold Sm
  rw [Int32.toInt_toInt64]
  omega
theorem Sm_gt {v : Int64} : ((1000000000000 : Int64) < v ∨ v < (-1000000000000 : Int64)) ↔ ¬ Sm v := by
  unfold Sm
  rw [Int64.lt_iff_toInt_lt, Int64.lt_iff_toInt_lt, show (1000000000000 : Int64).toInt = 1000000000000 from rfl, show (-1000000000000 : Int64).toInt = -1000000000000 from rfl]
  omega
theorem w407 {v : Int64} {m : Mem} {b : Nat} (hm : m.1 99 38 = zN (b + 1)) (hb : b < 64) : ∃ g, fX12_works_407 v m = some (g, mJ m 122 b v) ∧ ((g = 1 ∧ Sm v) ∨ (g = 0 ∧ ¬ Sm v)) := by
  unfold fX12_works_407
  rw [hm, show (1 : Int32) = zN 1 from rfl, zN_sub (by omega), show b + 1 - 1 = b from rfl, g_in hb (by omega), zN_cl (by omega)]
  simp only [lg_cmp_gt, lg_cmp_lt]
  by_cases h1 : (1000000000000 : Int64) < v
  · rw [if_pos h1]
    exact ⟨_, rfl, Or.inr ⟨rfl, Sm_gt.mp (Or.inl h1)⟩⟩
  · rw [if_neg h1]
    by_cases h2 : v < (-1000000000000 : Int64)
    · rw [if_pos h2]
      exact ⟨_, rfl, Or.inr ⟨rfl, Sm_gt.mp (Or.inr h2)⟩⟩
    · rw [if_neg h2]
      refine ⟨_, rfl, Or.inl ⟨rfl, Classical.byContradiction (fun q => ?_)⟩⟩
      exact (Sm_gt.mpr q).elim h1 h2
theorem mul_big {x y : Int64} (hx : Sm x) (hy : Sm y) (h0 : x ≠ 0) : ∀ z : Int64, (z = x ∨ z = -x) → 0 < z.toInt → z ≠ 0 ∧ ((1000000000000 : Int64) / z).toInt = 1000000000000 / z.toInt ∧ (((1000000000000 : Int64) / z) < y ∨ y < -((1000000000000 : Int64) / z) ↔ (1000000000000 : Int64) / z < labs y) := by
  intro z hz hp
  have e1 : z ≠ 0 := by
    intro q
    rw [q] at hp
    exact absurd hp (by decide)
  have hd : ((1000000000000 : Int64) / z).toInt = 1000000000000 / z.toInt := by
    rw [Int64.toInt_div_of_ne_left _ _ (by decide), show (1000000000000 : Int64).toInt = 1000000000000 from rfl]
    exact Int.tdiv_eq_ediv_of_nonneg (by omega)
  have hb : 0 ≤ 1000000000000 / z.toInt := Int.ediv_nonneg (by omega) (by omega)
  have hb2 : 1000000000000 / z.toInt ≤ 1000000000000 := Int.ediv_le_self _ (by omega)
  refine ⟨e1, hd, ?_⟩
  obtain ⟨y1, y2⟩ := hy
  have hn : (-((1000000000000 : Int64) / z)).toInt = -(1000000000000 / z.toInt) := by
    rw [l_neg (by rw [hd]; omega), hd]
  unfold labs
  rw [Int64.lt_iff_toInt_lt, Int64.lt_iff_toInt_lt, hn, hd]
  by_cases q : 0 < y
  · rw [if_pos q, Int64.lt_iff_toInt_lt, hd]
    have q := Int64.lt_iff_toInt_lt.mp q
    rw [show (0 : Int64).toInt = 0 from rfl] at q
    omega
  · rw [if_neg q, Int64.lt_iff_toInt_lt, hd, l_neg (by omega)]
    have q : ¬ (0 < y.toInt) := fun z => q (Int64.lt_iff_toInt_lt.mpr z)
    omega
/-- what a sign makes of two values -/
theorem op_rel {sx va : Nat} (hop : (sx, va) ∈ opT) {x y : Int64} (hx : Sm x) (hy : Sm y) {mC mR : Mem} {b : Nat} (hb : b + 2 ≤ 64) (hm : mR.1 99 38 = zN (b + 2)) (h2 : mR.2.1 122 b = x) (h1 : mR.2.1 122 (b + 1) = y) : ∃ v g mR', fX3_joined (zN sx) x y mC = some v ∧ fX12_works (zN va) mR = some (g, mR') ∧ (∀ c k, ¬ (c = 99 ∧ k = 38) → mR'.1 c k = mR.1 c k) ∧ ((g = 1 ∧ Sm v ∧ mR' = mJ (mI mR 99 38 (zN (b + 1))) 122 b v) ∨ (g = 0 ∧ ¬ Sm v)) := by
  have hr : mR.1 99 38 - (1 : Int32) = zN (b + 1) := by
    rw [hm, show (1 : Int32) = zN 1 from rfl, zN_sub (by omega)]
    rfl
  have hr2 : mR.1 99 38 - (2 : Int32) = zN b := by
    rw [hm, show (2 : Int32) = zN 2 from rfl, zN_sub (by omega)]
    rfl
  have fin : ∀ v : Int64, fX3_joined (zN sx) x y mC = some v → fX12_works (zN va) mR = fX12_works_407 v (mI mR 99 38 (zN (b + 1))) → ∃ v g mR', fX3_joined (zN sx) x y mC = some v ∧ fX12_works (zN va) mR = some (g, mR') ∧ (∀ c k, ¬ (c = 99 ∧ k = 38) → mR'.1 c k = mR.1 c k) ∧ ((g = 1 ∧ Sm v ∧ mR' = mJ (mI mR 99 38 (zN (b + 1))) 122 b v) ∨ (g = 0 ∧ ¬ Sm v)) := by
    intro v e1 e2
    obtain ⟨g, e3, e4⟩ := w407 (v := v) (m := mI mR 99 38 (zN (b + 1))) (b := b) (mI_s ⟨rfl, rfl⟩) (by omega)
    refine ⟨v, g, _, e1, e2.trans e3, fun c k q => ?_, ?_⟩
    · rw [mJ_1, mI_n (by omega)]
    · rcases e4 with q | q
      · exact Or.inl ⟨q.1, q.2, rfl⟩
      · exact Or.inr q
  have bad : fX3_joined (zN sx) x y mC = some lMIN → fX12_works (zN va) mR = some (0, mI mR 99 38 (zN (b + 1))) → ∃ v g mR', fX3_joined (zN sx) x y mC = some v ∧ fX12_works (zN va) mR = some (g, mR') ∧ (∀ c k, ¬ (c = 99 ∧ k = 38) → mR'.1 c k = mR.1 c k) ∧ ((g = 1 ∧ Sm v ∧ mR' = mJ (mI mR 99 38 (zN (b + 1))) 122 b v) ∨ (g = 0 ∧ ¬ Sm v)) := by
    intro e1 e2
    exact ⟨_, _, _, e1, e2, fun c k q => mI_n (by omega), Or.inr ⟨rfl, fun q => Sm_not q rfl⟩⟩
  have W : ∀ q : Int32, fX12_works q mR = (if q = (260 : Int32) then (if (lg_cmp y (0 : Int64)) = 0 then (fX12_works_40 (1 : Int32) (zN (b + 1)) mR) else (fX12_works_40 (0 : Int32) (zN (b + 1)) mR)) else (if q = (42 : Int32) then (if (lg_cmp x (0 : Int64)) = 0 then (fX12_works_212 y x (mI mR 99 38 (zN (b + 1)))) else (if (labs x) = 0 then none else (if (lg_cmp (labs y) ((1000000000000 : Int64) / (labs x))) ≤ 0 then (fX12_works_212 y x (mI mR 99 38 (zN (b + 1)))) else (some ((0 : Int32), (mI mR 99 38 (zN (b + 1)))))))) else (if q = (43 : Int32) then (fX12_works_407 (x + y) (mI mR 99 38 (zN (b + 1)))) else (if q = (45 : Int32) then (fX12_works_407 (x - y) (mI mR 99 38 (zN (b + 1)))) else (if q = (47 : Int32) then (if (lg_cmp y (0 : Int64)) = 0 then (some ((0 : Int32), (mI mR 99 38 (zN (b + 1))))) else (if y = 0 then none else (fX12_works_407 (x / y) (mI mR 99 38 (zN (b + 1)))))) else (if q = (60 : Int32) then (if 0 ≤ (lg_cmp x y) then (fX12_works_250 (0 : Int32) (mI mR 99 38 (zN (b + 1)))) else (fX12_works_250 (1 : Int32) (mI mR 99 38 (zN (b + 1))))) else (if q = (61 : Int32) then (if (lg_cmp x y) = 0 then (fX12_works_290 (1 : Int32) (mI mR 99 38 (zN (b + 1)))) else (fX12_works_290 (0 : Int32) (mI mR 99 38 (zN (b + 1))))) else (if q = (62 : Int32) then (if (lg_cmp x y) ≤ 0 then (fX12_works_270 (0 : Int32) (mI mR 99 38 (zN (b + 1)))) else (fX12_works_270 (1 : Int32) (mI mR 99 38 (zN (b + 1))))) else (if q = (256 : Int32) then (if 0 < (lg_cmp x y) then (fX12_works_310 (0 : Int32) (mI mR 99 38 (zN (b + 1)))) else (fX12_works_310 (1 : Int32) (mI mR 99 38 (zN (b + 1))))) else (if q = (257 : Int32) then (if (lg_cmp x y) = 0 then (fX12_works_350 (0 : Int32) (mI mR 99 38 (zN (b + 1)))) else (fX12_works_350 (1 : Int32) (mI mR 99 38 (zN (b + 1))))) else (if q = (258 : Int32) then (if (lg_cmp x y) < 0 then (fX12_works_330 (0 : Int32) (mI mR 99 38 (zN (b + 1)))) else (fX12_works_330 (1 : Int32) (mI mR 99 38 (zN (b + 1))))) else (if q = (261 : Int32) then (if (lg_cmp x (0 : Int64)) = 0 then (fX12_works_375 (mI mR 99 38 (zN (b + 1)))) else (if (lg_cmp y (0 : Int64)) = 0 then (fX12_works_375 (mI mR 99 38 (zN (b + 1)))) else (fX12_works_376 (1 : Int32) (mI mR 99 38 (zN (b + 1)))))) else (if (lg_cmp x (0 : Int64)) = 0 then (if (lg_cmp y (0 : Int64)) = 0 then (fX12_works_402 (0 : Int32) (mI mR 99 38 (zN (b + 1)))) else (fX12_works_397 (mI mR 99 38 (zN (b + 1))))) else (fX12_works_397 (mI mR 99 38 (zN (b + 1))))))))))))))))) := by
    intro q
    unfold fX12_works
    rw [hr, hr2, g_in (by omega) (by omega), g_in (by omega) (by omega), zN_cl (by omega), zN_cl (by omega), h1, h2]
  have B : ∀ {P : Prop} [Decidable P], (fX3_joined (zN sx) x y mC = if P then some 1 else some 0) → (fX12_works (zN va) mR = if P then fX12_works_407 1 (mI mR 99 38 (zN (b + 1))) else fX12_works_407 0 (mI mR 99 38 (zN (b + 1)))) → ∃ v g mR', fX3_joined (zN sx) x y mC = some v ∧ fX12_works (zN va) mR = some (g, mR') ∧ (∀ c k, ¬ (c = 99 ∧ k = 38) → mR'.1 c k = mR.1 c k) ∧ ((g = 1 ∧ Sm v ∧ mR' = mJ (mI mR 99 38 (zN (b + 1))) 122 b v) ∨ (g = 0 ∧ ¬ Sm v)) := by
    intro P inst e1 e2
    by_cases hP : P
    · rw [if_pos hP] at e1 e2
      exact fin 1 e1 e2
    · rw [if_neg hP] at e1 e2
      exact fin 0 e1 e2
  have z0 : ∀ M : Mem, (fX12_works_407 0 M) = (fX12_works_407 (0 : Int64) M) := fun _ => rfl
  simp only [opT, List.mem_cons, Prod.mk.injEq, List.not_mem_nil, or_false] at hop
  rcases hop with ⟨rfl, rfl⟩ | ⟨rfl, rfl⟩ | ⟨rfl, rfl⟩ | ⟨rfl, rfl⟩ | ⟨rfl, rfl⟩ | ⟨rfl, rfl⟩ | ⟨rfl, rfl⟩ | ⟨rfl, rfl⟩ | ⟨rfl, rfl⟩ | ⟨rfl, rfl⟩ | ⟨rfl, rfl⟩ | ⟨rfl, rfl⟩
  · refine B (P := ¬ (x = 0 ∧ y = 0)) ?_ ?_
    · show fX3_joined (11 : Int32) x y mC = _
      unfold fX3_joined
      rw [if_pos rfl]
      simp only [lg_cmp_eq]
      by_cases p : x = 0 <;> by_cases q : y = 0 <;> simp [p, q]
    · rw [W]
      show (if (262 : Int32) = (260 : Int32) then _ else _) = _
      simp only [lg_cmp_eq]
      by_cases p : x = 0 <;> by_cases q : y = 0 <;> simp [p, q, zN, fX12_works_402, fX12_works_397, fX12_is]
  · refine B (P := ¬ (x = 0 ∨ y = 0)) ?_ ?_
    · show fX3_joined (12 : Int32) x y mC = _
      unfold fX3_joined
      simp only [lg_cmp_eq]
      by_cases p : x = 0 <;> by_cases q : y = 0 <;> simp [p, q]
    · rw [W]
      show (if (261 : Int32) = (260 : Int32) then _ else _) = _
      simp only [lg_cmp_eq]
      by_cases p : x = 0 <;> by_cases q : y = 0 <;> simp [p, q, zN, fX12_works_375, fX12_works_376, fX12_is]
  · refine B (P := ¬ (y ≤ x)) ?_ ?_
    · show fX3_joined (25 : Int32) x y mC = _
      unfold fX3_joined
      simp only [lg_cmp_ge]
      by_cases p : y ≤ x <;> simp [p]
    · rw [W]
      show (if (60 : Int32) = (260 : Int32) then _ else _) = _
      simp only [lg_cmp_ge]
      by_cases p : y ≤ x <;> simp [p, zN, fX12_works_250, fX12_is]
  · refine B (P := ¬ (y < x)) ?_ ?_
    · show fX3_joined (26 : Int32) x y mC = _
      unfold fX3_joined
      simp only [lg_cmp_gt]
      by_cases p : y < x <;> simp [p]
    · rw [W]
      show (if (256 : Int32) = (260 : Int32) then _ else _) = _
      simp only [lg_cmp_gt]
      by_cases p : y < x <;> simp [p, zN, fX12_works_310, fX12_is]
  · refine B (P := x = y) ?_ ?_
    · show fX3_joined (27 : Int32) x y mC = _
      unfold fX3_joined
      simp only [lg_cmp_eq]
      by_cases p : x = y <;> simp [p]
    · rw [W]
      show (if (61 : Int32) = (260 : Int32) then _ else _) = _
      simp only [lg_cmp_eq]
      by_cases p : x = y <;> simp [p, zN, fX12_works_290, fX12_is]
  · refine B (P := ¬ (x = y)) ?_ ?_
    · show fX3_joined (28 : Int32) x y mC = _
      unfold fX3_joined
      simp only [lg_cmp_eq]
      by_cases p : x = y <;> simp [p]
    · rw [W]
      show (if (257 : Int32) = (260 : Int32) then _ else _) = _
      simp only [lg_cmp_eq]
      by_cases p : x = y <;> simp [p, zN, fX12_works_350, fX12_is]
  · refine B (P := ¬ (x < y)) ?_ ?_
    · show fX3_joined (29 : Int32) x y mC = _
      unfold fX3_joined
      simp only [lg_cmp_lt]
      by_cases p : x < y <;> simp [p]
    · rw [W]
      show (if (258 : Int32) = (260 : Int32) then _ else _) = _
      simp only [lg_cmp_lt]
      by_cases p : x < y <;> simp [p, zN, fX12_works_330, fX12_is]
  · refine B (P := ¬ (x ≤ y)) ?_ ?_
    · show fX3_joined (30 : Int32) x y mC = _
      unfold fX3_joined
      simp only [lg_cmp_le]
      by_cases p : x ≤ y <;> simp [p]
    · rw [W]
      show (if (62 : Int32) = (260 : Int32) then _ else _) = _
      simp only [lg_cmp_le]
      by_cases p : x ≤ y <;> simp [p, zN, fX12_works_270, fX12_is]
  · refine fin (x + y) ?_ ?_
    · show fX3_joined (31 : Int32) x y mC = _
      rfl
    · rw [W]
      rfl
  · refine fin (x - y) ?_ ?_
    · show fX3_joined (32 : Int32) x y mC = _
      rfl
    · rw [W]
      rfl
  · have J : fX3_joined (zN 33) x y mC = (if x = 0 then (some (0 : Int64)) else (if 0 ≤ x then (fX3_joined_251 x y x (1000000000000 : Int64) mC) else (fX3_joined_251 x y (-x) (1000000000000 : Int64) mC))) := by
      show fX3_joined (33 : Int32) x y mC = _
      unfold fX3_joined
      simp only [lg_cmp_eq, lg_cmp_ge]
      rfl
    have V : fX12_works (zN 42) mR = (if x = 0 then (fX12_works_212 y x (mI mR 99 38 (zN (b + 1)))) else (if (labs x) = 0 then none else (if (labs y) ≤ ((1000000000000 : Int64) / (labs x)) then (fX12_works_212 y x (mI mR 99 38 (zN (b + 1)))) else (some ((0 : Int32), (mI mR 99 38 (zN (b + 1)))))))) := by
      rw [W]
      show (if (42 : Int32) = (260 : Int32) then _ else _) = _
      simp only [lg_cmp_eq, lg_cmp_le]
      rfl
    by_cases q : x = 0
    · rw [if_pos q] at J V
      refine fin 0 J ?_
      rw [V]
      unfold fX12_works_212
      rw [q, Int64.zero_mul]
    · rw [if_neg q] at J V
      have hz : x.toInt ≠ 0 := fun z => q (Int64.toInt_inj.mp z)
      have hx' := hx
      obtain ⟨x1, x2⟩ := hx'
      have key : ∀ z : Int64, (z = x ∨ z = -x) → 0 < z.toInt → fX3_joined (zN 33) x y mC = fX3_joined_251 x y z (1000000000000 : Int64) mC → labs x = z → ∃ v g mR', fX3_joined (zN 33) x y mC = some v ∧ fX12_works (zN 42) mR = some (g, mR') ∧ (∀ c k, ¬ (c = 99 ∧ k = 38) → mR'.1 c k = mR.1 c k) ∧ ((g = 1 ∧ Sm v ∧ mR' = mJ (mI mR 99 38 (zN (b + 1))) 122 b v) ∨ (g = 0 ∧ ¬ Sm v)) := by
        intro z hz hp eJ ea
        obtain ⟨k1, k2, k3⟩ := mul_big hx hy q z hz hp
        rw [ea, if_neg k1] at V
        have eJ2 : fX3_joined_251 x y z (1000000000000 : Int64) mC = (if ((1000000000000 : Int64) / z) < y then some lMIN else if -((1000000000000 : Int64) / z) ≤ y then some (x * y) else some lMIN) := by
          unfold fX3_joined_251
          simp only [lg_cmp_gt, lg_cmp_ge]
          rw [if_neg k1]
        by_cases w : labs y ≤ (1000000000000 : Int64) / z
        · rw [if_pos w] at V
          have nw : ¬ ((1000000000000 : Int64) / z < labs y) := Int64.not_lt.mpr w
          rw [← k3] at nw
          refine fin (x * y) ?_ V
          rw [eJ, eJ2, if_neg (fun z => nw (Or.inl z)), if_pos (Int64.not_lt.mp (fun z => nw (Or.inr z)))]
        · rw [if_neg w] at V
          have nw : ((1000000000000 : Int64) / z < labs y) := Int64.not_le.mp w
          rw [← k3] at nw
          refine bad ?_ V
          rw [eJ, eJ2]
          rcases nw with nw | nw
          · rw [if_pos nw]
          · by_cases nn : (1000000000000 : Int64) / z < y
            · rw [if_pos nn]
            · rw [if_neg nn, if_neg (Int64.not_le.mpr nw)]
      by_cases p : 0 ≤ x
      · rw [if_pos p] at J
        have p' := Int64.le_iff_toInt_le.mp p
        rw [show (0 : Int64).toInt = 0 from rfl] at p'
        refine key x (Or.inl rfl) (by omega) J ?_
        unfold labs
        rw [if_pos]
        rw [Int64.lt_iff_toInt_lt, show (0 : Int64).toInt = 0 from rfl]
        omega
      · rw [if_neg p] at J
        have p' : ¬ (0 ≤ x.toInt) := fun z => p (Int64.le_iff_toInt_le.mpr z)
        refine key (-x) (Or.inr rfl) (by rw [l_neg (by omega)]; omega) J ?_
        unfold labs
        rw [if_neg]
        rw [Int64.lt_iff_toInt_lt, show (0 : Int64).toInt = 0 from rfl]
        omega
  · have J : fX3_joined (zN 34) x y mC = (if y = 0 then (some lMIN) else (if y = 0 then none else (some (x / y)))) := by
      show fX3_joined (34 : Int32) x y mC = _
      unfold fX3_joined
      simp only [lg_cmp_eq]
      rfl
    have V : fX12_works (zN 47) mR = (if y = 0 then (some ((0 : Int32), (mI mR 99 38 (zN (b + 1))))) else (if y = 0 then none else (fX12_works_407 (x / y) (mI mR 99 38 (zN (b + 1)))))) := by
      rw [W]
      show (if (47 : Int32) = (260 : Int32) then _ else _) = _
      simp only [lg_cmp_eq]
      rfl
    by_cases q : y = 0
    · rw [if_pos q] at J V
      exact bad J V
    · rw [if_neg q, if_neg q] at J V
      exact fin _ J V
