/-! the levels that are loops -/
def lpg (g : Nat) : Prop := g = 0 ∨ g = 1 ∨ g = 3 ∨ g = 4
theorem lpg_ok {g : Nat} (h : lpg g) : lvV g = lvT g ∧ lvT g < lvT (g + 1) ∧ lvT g ≤ lvV (g + 1) ∧ lvT g ≠ 4 ∧ lvT g ≠ 3 ∧ (g + 1 ≤ 2 → lvT g < 4) ∧ (3 ≤ g + 1 → 4 < lvT g) ∧ g ≤ 4 ∧ g ≠ 2 ∧ (lvT (g + 1) = lvT g + 1 ∨ (lvT g = 2 ∧ lvT (g + 1) = 4)) := by
  rcases h with rfl | rfl | rfl | rfl <;> decide
theorem loop_ok {N n l f0 d : Nat} {bt : Nat → Nat} {x2 x3 : Int32} {rc : Nat → Mem → Option Mem} {F : Nat → Mem → Option Mem} {g : Nat} (hg : lpg g) (hN : 1000 ≤ N)
    (fA : ∀ (nF : Nat) (mC mR : Mem), TkK (mC.1 5 4) (mC.1 5 6) (mR.1 99 28) (mR.1 99 29) → mR.1 99 30 = 0 → (∀ x, isOp x = true → mC.1 5 4 = zN x → bnd x ≠ lvT g) → F (nF + 1) mR = some mR)
    (fB : ∀ (nF : Nat) (mC mR : Mem) (x : Nat), TkK (mC.1 5 4) (mC.1 5 6) (mR.1 99 28) (mR.1 99 29) → mR.1 99 30 = 0 → isOp x = true → bnd x = lvT g → mC.1 5 4 = zN x → F (nF + 1) mR = (fX12_knot mR).bind (fun q6 => (fX12_goOn N q6).bind (fun q8 => (rc (g + 1) q8).bind (fun q10 => (fX12_puts (2 : Int32) (zN (opc x)) q10).bind (fun q12 => F nF q12)))))
    (fC : ∀ (nF : Nat) (mR : Mem), ¬ mR.1 99 30 = 0 → F (nF + 1) mR = some mR)
    (R : LV N n l f0 bt x2 x3 d rc (g + 1)) (RF : ∀ m : Mem, ¬ m.1 99 30 = 0 → rc (g + 1) m = some m) :
    ∀ (rem : Nat) (V Q : List Nat) (k c s i p pl nn nF : Nat) (mC mR : Mem), 64 - c ≤ rem → rem + 2 ≤ nF → 7 * (8 - k) + (64 - c) + (16 - g) ≤ d + 1 → LQ l f0 V Q k c s mC mR → LT n bt i p pl mC mR → nn + i = N → mC.1 2 5 = 0 → (mC.1 4 k = 0 ∨ mC.1 4 k = 1) → (∀ v, v ∈ V → lvV g ≤ bnd v) → cmpOk (lvT (g + 1)) k mC → stopAt (lvT g) Q → ∃ mR1, F nF mR = some mR1 ∧ LvRes N n l f0 bt x2 x3 (lvV g) (lvT g) (lvW g (mC.1 4 k)) 1 nn i s (s + V.length) k c p Q mC mR mR1 := by
  obtain ⟨g1, g2, g3, g4, g5, g6, g7, g8, g9, g10⟩ := lpg_ok hg
  intro rem
  induction rem using Nat.strongRecOn with
  | ind rem ih =>
    intro V Q k c s i p pl nn nF mC mR hrem hnF hd h t hf d5 h01 hV hcm hQ
    obtain ⟨nF', rfl, _⟩ := fuel (show 0 < nF by omega)
    by_cases H : ∃ x, isOp x = true ∧ mC.1 5 4 = zN x ∧ bnd x = lvT g
    · obtain ⟨x, hx, ek, hbx⟩ := H
      have x13 : x ≠ 13 := fun z => by
        rw [z] at hbx
        exact g5 hbx.symm
      have x35 := (isOp_lt hx).1
      obtain ⟨mRa, e1, r1⟩ := bin_step (x2 := x2) (x3 := x3) hN R RF (fun _ => by omega) h t hf d5 hx x13 ek (fun v hv => by rw [hbx, ← g1]; exact hV v hv) (by rw [hbx]; exact hQ) (fun z => absurd (hbx.symm.trans z) g4) h01 (by rw [hbx]; exact g2) (by rw [hbx]; exact g3) (fun z => by rw [hbx]; exact g6 z) (fun z => by have := g7 z; omega)
      have EB : F (nF' + 1) mR = F nF' mRa := by
        rw [fB nF' mC mR x t.tk.kk h.fl hx hbx ek]
        have := b_as (g := fun q12 => F nF' q12) (x := some ()) (f := fun _ => (fX12_knot mR).bind (fun q6 => (fX12_goOn N q6).bind (fun q8 => (rc (g + 1) q8).bind (fun q10 => fX12_puts (2 : Int32) (zN (opc x)) q10)))) e1
        rw [← this]
        show _ = ((fX12_knot mR).bind (fun q6 => (fX12_goOn N q6).bind (fun q8 => (rc (g + 1) q8).bind (fun q10 => fX12_puts (2 : Int32) (zN (opc x)) q10)))).bind (fun q12 => F nF' q12)
        simp only [Option.bind_assoc]
      rw [EB]
      rcases r1 with ⟨mCa, a1, a2, a3, a4⟩ | ⟨V', c', s', i', p', pl', nn', mC', b1, b2, b3, b4, b5, b6, b7, b8, b9, b10, b11, b12, b13, b14, b15⟩
      · obtain ⟨nF'', rfl, _⟩ := fuel (show 0 < nF' by omega)
        rw [fC _ _ a2.2.2]
        exact ⟨mRa, rfl, Or.inl ⟨mCa, a1, a2, a3, a4⟩⟩
      · have c64 := b3.kn.1
        have b01 : mC'.1 4 k = 0 ∨ mC'.1 4 k = 1 := by
          rcases b6 with ⟨_, w⟩ | ⟨w1, w⟩
          · exact w
          · have := g7 w1
            rw [w, if_neg (by omega), if_neg (by omega)]
            exact h01
        have bW : ∀ w, lvW g (mC'.1 4 k) w → lvW g (mC.1 4 k) w := by
          intro w hw
          rcases hw with z | ⟨z, z2⟩
          · exact Or.inl z
          · refine Or.inr ⟨z, z2.trans ?_⟩
            rcases b6 with ⟨q, _⟩ | ⟨w1, q⟩
            · omega
            · have := g7 w1
              rw [q, if_neg (by omega), if_neg (by omega)]
        obtain ⟨mRb, e2, r2⟩ := ih (64 - c') (by omega) V' Q k c' s' i' p' pl' nn' nF' mC' mRa (Nat.le_refl _) (by omega) (by omega) b3 b4 b2 b5 b01 (fun v hv => by rw [g1, ← hbx]; exact b7 v hv) b8 hQ
        refine ⟨mRb, e2, ?_⟩
        exact LvRes.after b1 b13 b14 b10 b11 (by omega) b12 b15 (r2.mono (Nat.le_refl _) (Nat.le_refl _) bW (fun _ _ z => z))
    · refine ⟨mR, fA nF' mC mR t.tk.kk h.fl (fun x hx ek z => H ⟨x, hx, ek, z⟩), Or.inr ⟨V, c, s, i, p, pl, nn, mC, rfl, hf, h, t, d5, ?_, hV, fun x hx ek => ?_, by omega, by omega, by omega, by omega, LFC.rf, LFR.rf, fun D => RSeg.nil⟩⟩
      · by_cases z : g ≤ 2
        · exact Or.inl ⟨z, h01⟩
        · exact Or.inr ⟨by omega, rfl⟩
      · have x35 := (isOp_lt hx).1
        have ne : bnd x ≠ lvT g := fun z => H ⟨x, hx, ek, z⟩
        rcases hcm x hx ek with w | w | w
        · exact Or.inl w
        · rcases g10 with z | ⟨z1, z2⟩
          · exact Or.inr (Or.inl (by omega))
          · by_cases y : bnd x = 3
            · exact Or.inl (bnd3 x x35 hx y)
            · exact Or.inr (Or.inl (by omega))
        · exact Or.inr (Or.inr w)
theorem lv_loop {N n l f0 d : Nat} {bt : Nat → Nat} {x2 x3 : Int32} {rc : Nat → Mem → Option Mem} {F : Nat → Mem → Option Mem} {g : Nat} (hg : lpg g) (hN : 1000 ≤ N)
    (fA : ∀ (nF : Nat) (mC mR : Mem), TkK (mC.1 5 4) (mC.1 5 6) (mR.1 99 28) (mR.1 99 29) → mR.1 99 30 = 0 → (∀ x, isOp x = true → mC.1 5 4 = zN x → bnd x ≠ lvT g) → F (nF + 1) mR = some mR)
    (fB : ∀ (nF : Nat) (mC mR : Mem) (x : Nat), TkK (mC.1 5 4) (mC.1 5 6) (mR.1 99 28) (mR.1 99 29) → mR.1 99 30 = 0 → isOp x = true → bnd x = lvT g → mC.1 5 4 = zN x → F (nF + 1) mR = (fX12_knot mR).bind (fun q6 => (fX12_goOn N q6).bind (fun q8 => (rc (g + 1) q8).bind (fun q10 => (fX12_puts (2 : Int32) (zN (opc x)) q10).bind (fun q12 => F nF q12)))))
    (fC : ∀ (nF : Nat) (mR : Mem), ¬ mR.1 99 30 = 0 → F (nF + 1) mR = some mR)
    (R : LV N n l f0 bt x2 x3 d rc (g + 1)) (RF : ∀ m : Mem, ¬ m.1 99 30 = 0 → rc (g + 1) m = some m)
    {Q : List Nat} {k c s i p pl nn : Nat} {mC mR : Mem} (hd : 7 * (8 - k) + (64 - c) + (16 - g) ≤ d + 1) (h : LQ l f0 [] Q k c s mC mR) (t : LT n bt i p pl mC mR) (hf : nn + i = N) (d5 : mC.1 2 5 = 1) (hQ : stopAt (lvT g) Q) (h01 : mC.1 4 k = 0 ∨ mC.1 4 k = 1) (hl : g ≤ 2 → mC.1 4 k = 0 ∧ mC.1 2 6 = 1) (hh : 3 ≤ g → mC.1 5 4 = zN 13 → mC.1 2 6 = 0) : ∃ mR1, (rc (g + 1) mR).bind (fun q => F N q) = some mR1 ∧ LvRes N n l f0 bt x2 x3 (lvV g) (lvT g) (lvW g (mC.1 4 k)) 0 nn i s s k c p Q mC mR mR1 := by
  obtain ⟨g1, g2, g3, g4, g5, g6, g7, g8, g9, g10⟩ := lpg_ok hg
  obtain ⟨mRa, e1, r1⟩ := R Q k c s i p pl nn mC mR (by omega) h t hf d5 (stopAt_le hQ (by omega)) h01 (fun z => hl (by omega)) (fun z => hh (by omega))
  rw [e1, b_some]
  rcases r1 with ⟨mCa, a1, a2, a3, a4⟩ | ⟨V', c', s', i', p', pl', nn', mC', b1, b2, b3, b4, b5, b6, b7, b8, b9, b10, b11, b12, b13, b14, b15⟩
  · obtain ⟨N', rfl, _⟩ := fuel (show 0 < N by omega)
    rw [fC _ _ a2.2.2]
    exact ⟨mRa, rfl, Or.inl ⟨mCa, a1, a2, a3, a4⟩⟩
  · have b01 : mC'.1 4 k = 0 ∨ mC'.1 4 k = 1 := by
      rcases b6 with ⟨_, w⟩ | ⟨w1, w⟩
      · exact w
      · rw [w]
        exact h01
    have bW : ∀ w, lvW g (mC'.1 4 k) w → lvW g (mC.1 4 k) w := by
      intro w hw
      rcases hw with z | ⟨z, z2⟩
      · exact Or.inl z
      · refine Or.inr ⟨z, z2.trans ?_⟩
        rcases b6 with ⟨q, _⟩ | ⟨w1, q⟩
        · omega
        · exact q
    have hVV : ∀ v, v ∈ V' → lvV g ≤ bnd v := fun v hv => by
      have := b7 v hv
      omega
    obtain ⟨mRb, e2, r2⟩ := loop_ok hg hN fA fB fC R RF (64 - c') V' Q k c' s' i' p' pl' nn' N mC' mRa (Nat.le_refl _) (by omega) (by omega) b3 b4 b2 b5 b01 hVV b8 hQ
    exact ⟨mRb, e2, LvRes.after b1 b13 b14 b10 b11 b9 b12 b15 (r2.mono (Nat.le_refl _) (Nat.le_refl _) bW (fun _ _ z => z))⟩
/-! the four loops -/
theorem b1x : ∀ x, x < 35 → isOp x = true → (bnd x = 1 ↔ x = 11) ∧ (bnd x = 2 ↔ x = 12) ∧ (bnd x = 5 ↔ x = 31 ∨ x = 32) ∧ (bnd x = 6 ↔ x = 33 ∨ x = 34) := by decide
theorem fA0 {N : Nat} {rc : Nat → Mem → Option Mem} (nF : Nat) (mC mR : Mem) (kk : TkK (mC.1 5 4) (mC.1 5 6) (mR.1 99 28) (mR.1 99 29)) (fl : mR.1 99 30 = 0) (H : ∀ x, isOp x = true → mC.1 5 4 = zN x → bnd x ≠ lvT 0) : fX12_expression_4 N rc (nF + 1) mR = some mR := by
  rw [fX12_expression_4, show fX12_isWord (11 : Int32) mR = _ from isWord_ok (w := 11) (by omega) kk fl, b_some, if_neg (fun z => H 11 rfl z rfl), if_pos rfl]
theorem fB0 {N : Nat} {rc : Nat → Mem → Option Mem} (nF : Nat) (mC mR : Mem) (x : Nat) (kk : TkK (mC.1 5 4) (mC.1 5 6) (mR.1 99 28) (mR.1 99 29)) (fl : mR.1 99 30 = 0) (hx : isOp x = true) (hb : bnd x = lvT 0) (ek : mC.1 5 4 = zN x) : fX12_expression_4 N rc (nF + 1) mR = (fX12_knot mR).bind (fun q6 => (fX12_goOn N q6).bind (fun q8 => (rc (0 + 1) q8).bind (fun q10 => (fX12_puts (2 : Int32) (zN (opc x)) q10).bind (fun q12 => fX12_expression_4 N rc nF q12)))) := by
  have e : x = 11 := ((b1x x (isOp_lt hx).1 hx).1).mp hb
  rw [e] at ek
  rw [e, fX12_expression_4, show fX12_isWord (11 : Int32) mR = _ from isWord_ok (w := 11) (by omega) kk fl, b_some, if_pos ek, if_neg z10]
  rfl
theorem fC0 {N : Nat} {rc : Nat → Mem → Option Mem} (nF : Nat) (mR : Mem) (f : ¬ mR.1 99 30 = 0) : fX12_expression_4 N rc (nF + 1) mR = some mR := by
  rw [fX12_expression_4, isWord_f f, b_some, if_pos rfl]
theorem fA1 {N : Nat} {rc : Nat → Mem → Option Mem} (nF : Nat) (mC mR : Mem) (kk : TkK (mC.1 5 4) (mC.1 5 6) (mR.1 99 28) (mR.1 99 29)) (fl : mR.1 99 30 = 0) (H : ∀ x, isOp x = true → mC.1 5 4 = zN x → bnd x ≠ lvT 1) : fX12_conjunction_4 N rc (nF + 1) mR = some mR := by
  rw [fX12_conjunction_4, show fX12_isWord (12 : Int32) mR = _ from isWord_ok (w := 12) (by omega) kk fl, b_some, if_neg (fun z => H 12 rfl z rfl), if_pos rfl]
theorem fB1 {N : Nat} {rc : Nat → Mem → Option Mem} (nF : Nat) (mC mR : Mem) (x : Nat) (kk : TkK (mC.1 5 4) (mC.1 5 6) (mR.1 99 28) (mR.1 99 29)) (fl : mR.1 99 30 = 0) (hx : isOp x = true) (hb : bnd x = lvT 1) (ek : mC.1 5 4 = zN x) : fX12_conjunction_4 N rc (nF + 1) mR = (fX12_knot mR).bind (fun q6 => (fX12_goOn N q6).bind (fun q8 => (rc (1 + 1) q8).bind (fun q10 => (fX12_puts (2 : Int32) (zN (opc x)) q10).bind (fun q12 => fX12_conjunction_4 N rc nF q12)))) := by
  have e : x = 12 := ((b1x x (isOp_lt hx).1 hx).2.1).mp hb
  rw [e] at ek
  rw [e, fX12_conjunction_4, show fX12_isWord (12 : Int32) mR = _ from isWord_ok (w := 12) (by omega) kk fl, b_some, if_pos ek, if_neg z10]
  rfl
theorem fC1 {N : Nat} {rc : Nat → Mem → Option Mem} (nF : Nat) (mR : Mem) (f : ¬ mR.1 99 30 = 0) : fX12_conjunction_4 N rc (nF + 1) mR = some mR := by
  rw [fX12_conjunction_4, isWord_f f, b_some, if_pos rfl]
theorem fA3 {N : Nat} {rc : Nat → Mem → Option Mem} (nF : Nat) (mC mR : Mem) (kk : TkK (mC.1 5 4) (mC.1 5 6) (mR.1 99 28) (mR.1 99 29)) (fl : mR.1 99 30 = 0) (H : ∀ x, isOp x = true → mC.1 5 4 = zN x → bnd x ≠ lvT 3) : fX12_sum_4 N rc (nF + 1) mR = some mR := by
  rw [fX12_sum_4, show fX12_isSign (43 : Int32) mR = _ from isSign_ok (x := 31) (y := 43) (by decide) kk fl, b_some, if_neg (fun z => H 31 rfl z rfl), if_pos rfl, show fX12_isSign (45 : Int32) mR = _ from isSign_ok (x := 32) (y := 45) (by decide) kk fl, b_some, if_neg (fun z => H 32 rfl z rfl), if_pos rfl]
theorem fB3 {N : Nat} {rc : Nat → Mem → Option Mem} (nF : Nat) (mC mR : Mem) (x : Nat) (kk : TkK (mC.1 5 4) (mC.1 5 6) (mR.1 99 28) (mR.1 99 29)) (fl : mR.1 99 30 = 0) (hx : isOp x = true) (hb : bnd x = lvT 3) (ek : mC.1 5 4 = zN x) : fX12_sum_4 N rc (nF + 1) mR = (fX12_knot mR).bind (fun q6 => (fX12_goOn N q6).bind (fun q8 => (rc (3 + 1) q8).bind (fun q10 => (fX12_puts (2 : Int32) (zN (opc x)) q10).bind (fun q12 => fX12_sum_4 N rc nF q12)))) := by
  have x35 := (isOp_lt hx).1
  have e := ((b1x x x35 hx).2.2.1).mp hb
  have va := ((kk.sg (opc_sg x x35 hx (by omega))).mpr ek).2
  rw [fX12_sum_4, show fX12_isSign (43 : Int32) mR = _ from isSign_ok (x := 31) (y := 43) (by decide) kk fl, b_some, show fX12_isSign (45 : Int32) mR = _ from isSign_ok (x := 32) (y := 45) (by decide) kk fl]
  have S : fX12_sum_22 N rc (fun m => fX12_sum_4 N rc nF m) mR = (fX12_knot mR).bind (fun q6 => (fX12_goOn N q6).bind (fun q8 => (rc (3 + 1) q8).bind (fun q10 => (fX12_puts (2 : Int32) (zN (opc x)) q10).bind (fun q12 => fX12_sum_4 N rc nF q12)))) := by
    unfold fX12_sum_22
    rw [va]
  rcases e with e | e
  · rw [e] at ek
    rw [if_pos ek, if_neg z10, S]
  · rw [e] at ek
    rw [if_neg (show ¬ (mC.1 5 4 = zN 31) from by rw [ek]; decide), if_pos rfl, b_some, if_pos ek, if_neg z10, S]
theorem fC3 {N : Nat} {rc : Nat → Mem → Option Mem} (nF : Nat) (mR : Mem) (f : ¬ mR.1 99 30 = 0) : fX12_sum_4 N rc (nF + 1) mR = some mR := by
  rw [fX12_sum_4, isSign_f f, b_some, if_pos rfl, isSign_f f, b_some, if_pos rfl]
theorem fA4 {N : Nat} {rc : Nat → Mem → Option Mem} (nF : Nat) (mC mR : Mem) (kk : TkK (mC.1 5 4) (mC.1 5 6) (mR.1 99 28) (mR.1 99 29)) (fl : mR.1 99 30 = 0) (H : ∀ x, isOp x = true → mC.1 5 4 = zN x → bnd x ≠ lvT 4) : fX12_product_4 N rc (nF + 1) mR = some mR := by
  rw [fX12_product_4, show fX12_isSign (42 : Int32) mR = _ from isSign_ok (x := 33) (y := 42) (by decide) kk fl, b_some, if_neg (fun z => H 33 rfl z rfl), if_pos rfl, show fX12_isSign (47 : Int32) mR = _ from isSign_ok (x := 34) (y := 47) (by decide) kk fl, b_some, if_neg (fun z => H 34 rfl z rfl), if_pos rfl]
theorem fB4 {N : Nat} {rc : Nat → Mem → Option Mem} (nF : Nat) (mC mR : Mem) (x : Nat) (kk : TkK (mC.1 5 4) (mC.1 5 6) (mR.1 99 28) (mR.1 99 29)) (fl : mR.1 99 30 = 0) (hx : isOp x = true) (hb : bnd x = lvT 4) (ek : mC.1 5 4 = zN x) : fX12_product_4 N rc (nF + 1) mR = (fX12_knot mR).bind (fun q6 => (fX12_goOn N q6).bind (fun q8 => (rc (4 + 1) q8).bind (fun q10 => (fX12_puts (2 : Int32) (zN (opc x)) q10).bind (fun q12 => fX12_product_4 N rc nF q12)))) := by
  have x35 := (isOp_lt hx).1
  have e := ((b1x x x35 hx).2.2.2).mp hb
  have va := ((kk.sg (opc_sg x x35 hx (by omega))).mpr ek).2
  rw [fX12_product_4, show fX12_isSign (42 : Int32) mR = _ from isSign_ok (x := 33) (y := 42) (by decide) kk fl, b_some, show fX12_isSign (47 : Int32) mR = _ from isSign_ok (x := 34) (y := 47) (by decide) kk fl]
  have S : fX12_product_22 N rc (fun m => fX12_product_4 N rc nF m) mR = (fX12_knot mR).bind (fun q6 => (fX12_goOn N q6).bind (fun q8 => (rc (4 + 1) q8).bind (fun q10 => (fX12_puts (2 : Int32) (zN (opc x)) q10).bind (fun q12 => fX12_product_4 N rc nF q12)))) := by
    unfold fX12_product_22
    rw [va]
  rcases e with e | e
  · rw [e] at ek
    rw [if_pos ek, if_neg z10, S]
  · rw [e] at ek
    rw [if_neg (show ¬ (mC.1 5 4 = zN 33) from by rw [ek]; decide), if_pos rfl, b_some, if_pos ek, if_neg z10, S]
theorem fC4 {N : Nat} {rc : Nat → Mem → Option Mem} (nF : Nat) (mR : Mem) (f : ¬ mR.1 99 30 = 0) : fX12_product_4 N rc (nF + 1) mR = some mR := by
  rw [fX12_product_4, isSign_f f, b_some, if_pos rfl, isSign_f f, b_some, if_pos rfl]
/-! not, and one comparison -/
theorem sg4 : ∀ q ∈ sgT, (bnd q.1 = 4 ↔ (q.2 = 60 ∨ q.2 = 62 ∨ q.2 = 61 ∨ 256 ≤ q.2)) ∧ (bnd q.1 = 4 → isOp q.1 = true) := by decide
theorem neg_if {mC mR : Mem} {A B : Option Mem} (kk : TkK (mC.1 5 4) (mC.1 5 6) (mR.1 99 28) (mR.1 99 29)) (fl : mR.1 99 30 = 0) : ((∃ x, isOp x = true ∧ mC.1 5 4 = zN x ∧ bnd x = 4) → (if (mR.1 99 30) = 0 then (if (mR.1 99 28) = (3 : Int32) then (if (mR.1 99 29) = (60 : Int32) then A else (if (mR.1 99 29) = (62 : Int32) then A else (if (mR.1 99 29) = (61 : Int32) then A else (if (256 : Int32) ≤ (mR.1 99 29) then A else B)))) else B) else B) = A) ∧ (¬ (∃ x, isOp x = true ∧ mC.1 5 4 = zN x ∧ bnd x = 4) → (if (mR.1 99 30) = 0 then (if (mR.1 99 28) = (3 : Int32) then (if (mR.1 99 29) = (60 : Int32) then A else (if (mR.1 99 29) = (62 : Int32) then A else (if (mR.1 99 29) = (61 : Int32) then A else (if (256 : Int32) ≤ (mR.1 99 29) then A else B)))) else B) else B) = B) := by
  rw [if_pos fl]
  have G : ∀ y : Nat, y ≤ 258 → (if zN y = (60 : Int32) then A else (if zN y = (62 : Int32) then A else (if zN y = (61 : Int32) then A else (if (256 : Int32) ≤ zN y then A else B)))) = if (y = 60 ∨ y = 62 ∨ y = 61 ∨ 256 ≤ y) then A else B := by
    intro y hy
    by_cases w : y = 60 ∨ y = 62 ∨ y = 61 ∨ 256 ≤ y
    · rw [if_pos w]
      rcases w with w | w | w | w
      · rw [w, if_pos (show zN 60 = (60 : Int32) from rfl)]
      · rw [w, if_neg (show ¬ (zN 62 = (60 : Int32)) from by decide), if_pos (show zN 62 = (62 : Int32) from rfl)]
      · rw [w, if_neg (show ¬ (zN 61 = (60 : Int32)) from by decide), if_neg (show ¬ (zN 61 = (62 : Int32)) from by decide), if_pos (show zN 61 = (61 : Int32) from rfl)]
      · rw [if_neg (show ¬ (zN y = (60 : Int32)) from zne (c := 60) (by omega) (by omega) (by omega)), if_neg (show ¬ (zN y = (62 : Int32)) from zne (c := 62) (by omega) (by omega) (by omega)), if_neg (show ¬ (zN y = (61 : Int32)) from zne (c := 61) (by omega) (by omega) (by omega)), if_pos (show (256 : Int32) ≤ zN y from zle' (a := 256) (by omega) (by omega) w)]
    · rw [if_neg w, if_neg (show ¬ (zN y = (60 : Int32)) from zne (c := 60) (by omega) (by omega) (by omega)), if_neg (show ¬ (zN y = (62 : Int32)) from zne (c := 62) (by omega) (by omega) (by omega)), if_neg (show ¬ (zN y = (61 : Int32)) from zne (c := 61) (by omega) (by omega) (by omega)), if_neg (show ¬ ((256 : Int32) ≤ zN y) from zle (a := 256) (by omega) (by omega) (by omega))]
  by_cases s3 : mR.1 99 28 = (3 : Int32)
  · rw [if_pos s3]
    rcases kk with ⟨h1, h2⟩ | ⟨w', w1, h1, h2, h3⟩ | ⟨h1, h2, h3⟩ | ⟨h1, h2, _⟩ | ⟨x', y', hx', h1, h2, h3⟩ | ⟨h1, h2⟩
    · exact absurd (h2.symm.trans s3) (by decide)
    · exact absurd (h2.symm.trans s3) (by decide)
    · exact absurd (h2.symm.trans s3) (by decide)
    · exact absurd (h2.symm.trans s3) (by decide)
    · obtain ⟨c1, c2, c3, c4⟩ := sg_bd _ hx'
      dsimp only at c1 c2 c3 c4
      obtain ⟨d1, d2⟩ := sg4 _ hx'
      dsimp only at d1 d2
      rw [h3, G y' (by omega)]
      refine ⟨fun ⟨x, a1, a2, a3⟩ => ?_, fun z => ?_⟩
      · have x35 := (isOp_lt a1).1
        rw [h1, zN_eq (by omega) (by omega)] at a2
        rw [if_pos (d1.mp (by rw [a2]; exact a3))]
      · rw [if_neg (fun w => z ⟨x', d2 (d1.mpr w), h1, d1.mpr w⟩)]
    · exact absurd (h2.symm.trans s3) (by decide)
  · rw [if_neg s3]
    refine ⟨fun ⟨x, a1, a2, a3⟩ => ?_, fun _ => rfl⟩
    have x35 := (isOp_lt a1).1
    have x25 : 25 ≤ x := by
      have d : ∀ x, x < 35 → isOp x = true → bnd x = 4 → 25 ≤ x := by decide
      exact d x x35 a1 a3
    exact absurd ((kk.sg (opc_sg x x35 a1 x25)).mpr a2).1 s3
theorem lv_neg {N n l f0 d : Nat} {bt : Nat → Nat} {x2 x3 : Int32} {rc : Nat → Mem → Option Mem} (hN : 1000 ≤ N) (R2 : LV N n l f0 bt x2 x3 d rc 2) (R3 : LV N n l f0 bt x2 x3 d rc 3) (F2 : ∀ m : Mem, ¬ m.1 99 30 = 0 → rc 2 m = some m) (F3 : ∀ m : Mem, ¬ m.1 99 30 = 0 → rc 3 m = some m)
    {Q : List Nat} {k c s i p pl nn : Nat} {mC mR : Mem} (hd : 7 * (8 - k) + (64 - c) + (16 - 2) ≤ d + 1) (h : LQ l f0 [] Q k c s mC mR) (t : LT n bt i p pl mC mR) (hf : nn + i = N) (d5 : mC.1 2 5 = 1) (hQ : stopAt (lvT 2) Q) (hk0 : mC.1 4 k = 0) (d6 : mC.1 2 6 = 1) : ∃ mR1, fX12_negation N rc mR = some mR1 ∧ LvRes N n l f0 bt x2 x3 (lvV 2) (lvT 2) (lvW 2 (mC.1 4 k)) 0 nn i s s k c p Q mC mR mR1 := by
  have kk := t.tk.kk
  unfold fX12_negation
  rw [show fX12_isWord (13 : Int32) mR = _ from isWord_ok (w := 13) (by omega) kk h.fl, b_some]
  by_cases tn : mC.1 5 4 = zN 13
  · rw [if_pos tn, if_neg z10]
    obtain ⟨mRa, e1, r1⟩ := not_step (x2 := x2) (x3 := x3) hN h t hf d5 d6 tn
    rw [b_as e1]
    rcases r1 with ⟨mCa, a1, a2, a3, a4⟩ | ⟨a0, mCa, pa, pla, na, a1, a2, a3, a4, a5, a6, a7, a8, a9, a10, a11⟩
    · rw [F2 _ a2.2.2, b_some, puts_f a2.2.2, b_some]
      exact ⟨mRa, rfl, Or.inl ⟨mCa, a1, a2, a3, a4⟩⟩
    · have c64 := a3.kn.1
      obtain ⟨mRb, e2, r2⟩ := R2 (13 :: Q) k (c + 1) s (i + 1) pa pla na mCa mRa (by omega) a3 a4 a2 a5 (Or.inr ⟨by omega, by decide⟩) (Or.inl (a7.trans hk0)) (fun _ => ⟨a7.trans hk0, a6⟩) (fun z => absurd z (by omega))
      rw [e2, b_some]
      rcases r2 with ⟨mCb, b1, b2, b3, b4⟩ | ⟨V', c', s', i', p', pl', nn', mC', b1, b2, b3, b4, b5, b6, b7, b8, b9, b10, b11, b12, b13, b14, b15⟩
      · rw [puts_f b2.2.2, b_some]
        exact ⟨mRb, rfl, Or.inl ⟨mCb, a1.trans b1, b2, a10.tr b3 (by omega) (Nat.le_refl k), a11.tr b4 (Nat.le_refl _)⟩⟩
      · obtain ⟨mRc, e3, q1, q2, q3, q4⟩ := b3.sgn (x := 13) rfl
        rw [show fX12_puts (2 : Int32) (260 : Int32) mRb = some mRc from e3, b_some]
        have el : (V' ++ [13]).length = V'.length + 1 := by rw [List.length_append, List.length_singleton]
        refine ⟨mRc, rfl, Or.inr ⟨V' ++ [13], c', s', i', p', pl', nn', mC', a1.trans b1, b2, q1, b4.cong (fun _ _ _ => rfl) (fun cc j w => q4 cc j (by omega) (by omega)), b5, ?_, fun v hv => ?_, b8, by omega, by omega, by omega, by omega, a10.tr b13 (by omega) (Nat.le_refl k), fun cc j w1 w2 w3 => ?_, fun D => ?_⟩⟩
        · rcases b6 with w | w
          · exact Or.inl w
          · omega
        · rcases List.mem_append.mp hv with w | w
          · exact b7 v w
          · rw [List.mem_singleton] at w
            rw [w]
            exact Nat.le_refl _
        · rw [q4 cc j w2 (by omega)]
          exact (a11.tr b14 (Nat.le_refl _)) cc j w1 w2 w3
        · have S1 : RSeg mRc s (s' + V'.length) D (D + 1) := (b15 D).cong (fun cc j w1 w2 w3 => q4 cc _ (by omega) (by omega))
          have S2 : RSeg mRc (s' + V'.length) (s' + V'.length + 1) (D + 1) (D + 1) := RSeg.one (by
            rw [q2, q3]
            exact Or.inr (Or.inr (Or.inl ⟨rfl, rfl, by omega, rfl⟩)))
          rw [el, ← Nat.add_assoc]
          exact S1.cat S2 b11 (by omega)
  · rw [if_neg tn, if_pos rfl]
    obtain ⟨mRa, e1, r1⟩ := R3 Q k c s i p pl nn mC mR (by omega) h t hf d5 (stopAt_le hQ (by decide)) (Or.inl hk0) (fun z => absurd z (by omega)) (fun _ z => absurd z tn)
    rw [e1, b_some]
    rcases r1 with ⟨mCa, a1, a2, a3, a4⟩ | ⟨V', c', s', i', p', pl', nn', mC', b1, b2, b3, b4, b5, b6, b7, b8, b9, b10, b11, b12, b13, b14, b15⟩
    · rw [if_neg a2.2.2]
      exact ⟨mRa, rfl, Or.inl ⟨mCa, a1, a2, a3, a4⟩⟩
    · have w0 : mC'.1 4 k = 0 := by
        rcases b6 with ⟨w, _⟩ | ⟨_, w⟩
        · omega
        · rw [w]
          exact hk0
      obtain ⟨I1, I2⟩ := neg_if (A := fX12_negation_87 N rc mRa) (B := some mRa) b4.tk.kk b3.fl
      by_cases H : ∃ x, isOp x = true ∧ mC'.1 5 4 = zN x ∧ bnd x = 4
      · rw [I1 H]
        obtain ⟨x, hx, ek, hbx⟩ := H
        have x35 := (isOp_lt hx).1
        have x25 : 25 ≤ x := by
          have d : ∀ x, x < 35 → isOp x = true → bnd x = 4 → 25 ≤ x := by decide
          exact d x x35 hx hbx
        have va := ((b4.tk.kk.sg (opc_sg x x35 hx x25)).mpr ek).2
        obtain ⟨mRb, e2, r2⟩ := bin_step (x2 := x2) (x3 := x3) hN R3 F3 (fun _ => by omega) b3 b4 b2 b5 hx (by omega) ek (fun v hv => by
          have := b7 v hv
          have e : lvV 3 = 5 := rfl
          omega) (by rw [hbx]; exact hQ) (fun _ => w0) (Or.inl w0) (by rw [hbx]; decide) (by rw [hbx]; decide) (fun z => absurd z (by omega)) (fun _ => by omega)
        have EN : fX12_negation_87 N rc mRa = some mRb := by
          unfold fX12_negation_87
          rw [va, ← e2]
          congr 1
          funext q9
          congr 1
          funext q11
          congr 1
          funext q13
          cases fX12_puts (2 : Int32) (zN (opc x)) q13 <;> rfl
        refine ⟨mRb, EN, ?_⟩
        refine LvRes.after b1 b13 b14 b10 b11 b9 b12 b15 (r2.mono (W' := lvW 2 (mC.1 4 k)) (bV' := lvV 2) (bT' := lvT 2) (c0 := c') (by rw [hbx]; decide) (by omega) (fun w hw => ?_) (fun m hw hm => ?_))
        · rcases hw with ⟨z, _⟩ | ⟨_, z⟩
          · omega
          · rw [if_pos hbx] at z
            exact Or.inl ⟨by omega, Or.inr z⟩
        · intro y hy ey
          have z1 : m.1 4 k = 1 := by
            rcases hw with ⟨z, _⟩ | ⟨_, z⟩
            · omega
            · rw [if_pos hbx] at z
              exact z
          have e5 : lvT 3 = 5 := rfl
          have e4 : lvT 2 = 4 := rfl
          rcases hm y hy ey with w | w | w
          · exact Or.inl w
          · by_cases u : bnd y = 4
            · exact Or.inr (Or.inr ⟨u, z1⟩)
            · exact Or.inr (Or.inl (by omega))
          · exact Or.inr (Or.inr w)
      · rw [I2 H]
        refine ⟨mRa, rfl, Or.inr ⟨V', c', s', i', p', pl', nn', mC', b1, b2, b3, b4, b5, Or.inl ⟨by omega, Or.inl w0⟩, fun v hv => Nat.le_trans (by decide) (b7 v hv), fun y hy ey => ?_, b9, b10, b11, b12, b13, b14, b15⟩⟩
        have e5 : lvT 3 = 5 := rfl
        have e4 : lvT 2 = 4 := rfl
        rcases b8 y hy ey with w | w | w
        · exact Or.inl w
        · by_cases u : bnd y = 4
          · exact absurd ⟨y, hy, ey, u⟩ H
          · exact Or.inr (Or.inl (by omega))
        · exact Or.inr (Or.inr w)
