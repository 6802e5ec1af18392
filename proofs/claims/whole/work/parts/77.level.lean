/-! the levels of the grammar: what a level comes to -/
def lvV (g : Nat) : Nat := [1, 2, 3, 5, 6, 7].getD g 0
def lvT (g : Nat) : Nat := [1, 2, 4, 5, 6, 7].getD g 0
def lvW (g : Nat) (w0 w : Int32) : Prop := (g ≤ 2 ∧ (w = 0 ∨ w = 1)) ∨ (3 ≤ g ∧ w = w0)
def cmpOk (b k : Nat) (mC : Mem) : Prop := ∀ x, isOp x = true → mC.1 5 4 = zN x → x = 13 ∨ bnd x < b ∨ (bnd x = 4 ∧ mC.1 4 k = 1)
theorem opc_ok : ∀ x, x < 35 → isOp x = true → x ≠ 13 → opc x ≠ 260 ∧ opc x < 300 := by decide
theorem bnd3 : ∀ x, x < 35 → isOp x = true → bnd x = 3 → x = 13 := by decide
theorem bnd0 : ∀ x, x < 35 → isOp x = false → bnd x = 0 := by decide
theorem opc_sg : ∀ x, x < 35 → isOp x = true → 25 ≤ x → (x, opc x) ∈ sgT := by
  intro x h _ h2
  have : x = 25 ∨ x = 26 ∨ x = 27 ∨ x = 28 ∨ x = 29 ∨ x = 30 ∨ x = 31 ∨ x = 32 ∨ x = 33 ∨ x = 34 := by omega
  rcases this with rfl | rfl | rfl | rfl | rfl | rfl | rfl | rfl | rfl | rfl <;> decide
theorem b_as {α β γ : Type} {x : Option α} {f : α → Option β} {g : β → Option γ} {y : β} (h : x.bind (fun q => f q) = some y) : x.bind (fun q => (f q).bind g) = g y := by
  cases x with
  | none => exact absurd h (by simp)
  | some a =>
    have h : f a = some y := h
    show (f a).bind g = g y
    rw [h]
    rfl
theorem LT.cong {n : Nat} {bt : Nat → Nat} {i p pl : Nat} {mC mR mC' mR' : Mem} (t : LT n bt i p pl mC mR) (hC : ∀ c j, c = 1 ∨ c = 5 ∨ c = 6 → mC'.1 c j = mC.1 c j) (hR : ∀ c j, c = 100 ∨ (c = 99 ∧ 25 ≤ j ∧ j ≤ 29) → mR'.1 c j = mR.1 c j) : LT n bt i p pl mC' mR' := by
  refine ⟨t.tb.cong (fun c k a b d => hC c k (by omega)) (fun c k a b d => hR c k (by omega)), ⟨?_, ?_, ?_, ?_, t.tk.lp, ?_⟩, t.pn, ?_⟩
  · rw [hC _ _ (by omega)]
    exact t.tk.nC
  · rw [hR _ _ (by omega)]
    exact t.tk.nR
  · rw [hC _ _ (by omega)]
    exact t.tk.lC
  · rw [hR _ _ (by omega)]
    exact t.tk.lR
  · rw [hC _ _ (by omega), hC _ _ (by omega), hR _ _ (by omega), hR _ _ (by omega)]
    exact t.tk.kk
  · rw [hC _ _ (by omega)]
    exact t.ip
theorem getD_app {V : List Nat} {x j : Nat} : (V ++ [x]).getD j 0 = if j < V.length then V.getD j 0 else if j = V.length then x else 0 := by
  by_cases h : j < V.length
  · rw [if_pos h]
    rw [List.getD, List.getElem?_append_left h]
    rfl
  · rw [if_neg h]
    by_cases e : j = V.length
    · rw [if_pos e, e]
      simp [List.getD]
    · rw [if_neg e]
      have : V.length + 1 ≤ j := by omega
      simp [List.getD, List.getElem?_eq_none, this]
/-- a sign is put by the reference -/
theorem LQ.sgn {l f0 : Nat} {V Q : List Nat} {k c s x : Nat} {mC mR : Mem} (h : LQ l f0 V (x :: Q) k c s mC mR) (hx : isOp x = true) : ∃ mR1, fX12_puts (2 : Int32) (zN (opc x)) mR = some mR1 ∧ LQ l f0 (V ++ [x]) Q k c s mC mR1 ∧ mR1.1 119 (64 + (s + V.length)) = 2 ∧ mR1.1 120 (64 + (s + V.length)) = zN (opc x) ∧ (∀ c j, ¬ (c = 101 ∧ j = 15) → ¬ ((c = 119 ∨ c = 120) ∧ j = 64 + (s + V.length)) → mR1.1 c j = mR.1 c j) := by
  have L := h.len
  have ct := h.ct
  have c1 := h.kn.1
  have av := nS_ops V h.vs
  have as := nS_app V (x :: Q)
  have e23 := (isOp_lt hx).2.1
  have ax : nS (x :: Q) = 1 + nS Q := by rw [nS, if_neg e23]
  have eL : V ++ [x] ++ Q = V ++ (x :: Q) := by simp
  refine ⟨_, puts_ok (t := s + V.length) h.fl h.sz.2 (by omega), ⟨?_, ?_, ?_, ⟨h.op.1, h.op.2.1, ?_⟩, ⟨h.kn.1, h.kn.2.1, ?_⟩, ⟨h.sz.1, ?_⟩, ?_, ?_, fun j hj => ?_, fun j a b => ?_, h.hl, ⟨h.fz.1, h.fz.2.1, ?_⟩⟩, ?_, ?_, fun c j a b => ?_⟩
  · rw [mI_n (by omega), mI_n (by omega), mI_n (by omega)]
    exact h.fl
  · rw [eL]
    exact h.wt
  · rw [eL]
    exact h.pd
  · rw [mI_n (by omega), mI_n (by omega), mI_n (by omega)]
    exact h.op.2.2
  · rw [mI_n (by omega), mI_n (by omega), mI_n (by omega)]
    exact h.kn.2.2
  · rw [mI_s ⟨rfl, rfl⟩, List.length_append, List.length_singleton, Nat.add_assoc]
  · rw [eL]
    exact h.ct
  · intro v hv
    rcases List.mem_append.mp hv with w | w
    · exact h.vs v w
    · rw [List.mem_singleton] at w
      rw [w]
      exact hx
  · rw [List.length_append, List.length_singleton] at hj
    rw [getD_app, mI_n (by omega)]
    by_cases w : j < V.length
    · rw [if_pos w, mI_n (by omega), mI_n (by omega), mI_n (by omega), mI_n (by omega), mI_n (by omega)]
      exact h.cv j w
    · have e : j = V.length := by omega
      rw [if_neg w, if_pos e, e, mI_n (by omega), mI_s ⟨rfl, rfl⟩, mI_n (by omega), mI_s ⟨rfl, rfl⟩]
      exact ⟨rfl, rfl⟩
  · rw [mI_n (by omega), mI_n (by omega), mI_n (by omega), mI_n (by omega), mI_n (by omega), mI_n (by omega)]
    exact h.cm j a b
  · rw [mI_n (by omega), mI_n (by omega), mI_n (by omega)]
    exact h.fz.2.2
  · rw [mI_n (by omega), mI_n (by omega), mI_s ⟨rfl, rfl⟩]
  · rw [mI_n (by omega), mI_s ⟨rfl, rfl⟩]
  · rw [mI_n (by omega), mI_n (by omega), mI_n (by omega)]
theorem RSeg.nil {m : Mem} {a D : Nat} : RSeg m a a D D := ⟨fun _ => D, rfl, rfl, fun j h1 h2 => absurd h2 (by omega)⟩
/-- what the two sides come to, from one place on -/
def LvRes (N n l f0 : Nat) (bt : Nat → Nat) (x2 x3 : Int32) (bV bT : Nat) (W : Int32 → Prop) (e nn i s r k c p : Nat) (Q : List Nat) (mC mR mR1 : Mem) : Prop := (∃ mC', fX8_readLaw_89 N nn l x2 x3 (zN i) mC = some (0, mC') ∧ FlR mC' mR1 ∧ LFC l s k mC mC' ∧ LFR r mR mR1) ∨ (∃ V c' s' i' p' pl' nn' mC', fX8_readLaw_89 N nn l x2 x3 (zN i) mC = fX8_readLaw_89 N nn' l x2 x3 (zN i') mC' ∧ nn' + i' = N ∧ LQ l f0 V Q k c' s' mC' mR1 ∧ LT n bt i' p' pl' mC' mR1 ∧ mC'.1 2 5 = 0 ∧ W (mC'.1 4 k) ∧ (∀ v, v ∈ V → bV ≤ bnd v) ∧ cmpOk bT k mC' ∧ c ≤ c' ∧ s ≤ s' ∧ r ≤ s' + V.length ∧ p ≤ p' ∧ LFC l s k mC mC' ∧ LFR r mR mR1 ∧ ∀ D, RSeg mR1 r (s' + V.length) (D + e) (D + 1))
theorem LvRes.after {N n l f0 : Nat} {bt : Nat → Nat} {x2 x3 : Int32} {bV bT : Nat} {W : Int32 → Prop} {e e1 nn nn1 i i1 s s1 r r1 k c c1 p p1 : Nat} {Q : List Nat} {mC mC1 mR mRm mR1 : Mem} (E : fX8_readLaw_89 N nn l x2 x3 (zN i) mC = fX8_readLaw_89 N nn1 l x2 x3 (zN i1) mC1) (hC : LFC l s k mC mC1) (hR : LFR r mR mRm) (hs : s ≤ s1) (hr : r ≤ r1) (hc : c ≤ c1) (hp : p ≤ p1) (hD : ∀ D, RSeg mRm r r1 (D + e) (D + e1)) (h : LvRes N n l f0 bt x2 x3 bV bT W e1 nn1 i1 s1 r1 k c1 p1 Q mC1 mRm mR1) : LvRes N n l f0 bt x2 x3 bV bT W e nn i s r k c p Q mC mR mR1 := by
  rcases h with ⟨mC', a1, a2, a3, a4⟩ | ⟨V, c', s', i', p', pl', nn', mC', a1, a2, a3, a4, a5, a6, a7, a8, a9, a10, a11, a12, a13, a14, a15⟩
  · exact Or.inl ⟨mC', E.trans a1, a2, hC.tr a3 hs (Nat.le_refl k), hR.tr a4 hr⟩
  · refine Or.inr ⟨V, c', s', i', p', pl', nn', mC', E.trans a1, a2, a3, a4, a5, a6, a7, a8, by omega, by omega, by omega, by omega, hC.tr a13 hs (Nat.le_refl k), hR.tr a14 hr, fun D => ?_⟩
    exact ((hD D).cong (fun c j w _ b => a14 c _ (by omega) (by omega) (by omega))).cat (a15 D) hr a11
theorem LvRes.mono {N n l f0 : Nat} {bt : Nat → Nat} {x2 x3 : Int32} {bV bT bV' bT' : Nat} {W W' : Int32 → Prop} {e nn i s r k c c0 p : Nat} {Q : List Nat} {mC mR mR1 : Mem} (h : LvRes N n l f0 bt x2 x3 bV bT W e nn i s r k c p Q mC mR mR1) (hb : bV' ≤ bV) (hc : c0 ≤ c) (hw : ∀ w, W w → W' w) (ht : ∀ m : Mem, W (m.1 4 k) → cmpOk bT k m → cmpOk bT' k m) : LvRes N n l f0 bt x2 x3 bV' bT' W' e nn i s r k c0 p Q mC mR mR1 := by
  rcases h with ⟨mC', a1, a2, a3, a4⟩ | ⟨V, c', s', i', p', pl', nn', mC', a1, a2, a3, a4, a5, a6, a7, a8, a9, a10, a11, a12, a13, a14, a15⟩
  · exact Or.inl ⟨mC', a1, a2, a3, a4⟩
  · exact Or.inr ⟨V, c', s', i', p', pl', nn', mC', a1, a2, a3, a4, a5, hw _ a6, fun v hv => Nat.le_trans hb (a7 v hv), ht _ a6 a8, by omega, a10, a11, a12, a13, a14, a15⟩
/-- a level of the grammar, for all that may stand around it -/
def LV (N n l f0 : Nat) (bt : Nat → Nat) (x2 x3 : Int32) (d : Nat) (rc : Nat → Mem → Option Mem) (g : Nat) : Prop := ∀ (Q : List Nat) (k c s i p pl nn : Nat) (mC mR : Mem), 7 * (8 - k) + (64 - c) + (16 - g) ≤ d → LQ l f0 [] Q k c s mC mR → LT n bt i p pl mC mR → nn + i = N → mC.1 2 5 = 1 → stopAt (lvT g) Q → (mC.1 4 k = 0 ∨ mC.1 4 k = 1) → (g ≤ 2 → mC.1 4 k = 0 ∧ mC.1 2 6 = 1) → (3 ≤ g → mC.1 5 4 = zN 13 → mC.1 2 6 = 0) → ∃ mR1, rc g mR = some mR1 ∧ LvRes N n l f0 bt x2 x3 (lvV g) (lvT g) (lvW g (mC.1 4 k)) 0 nn i s s k c p Q mC mR mR1
theorem stopAt_le {a b : Nat} {Q : List Nat} (h : stopAt a Q) (q : a ≤ b) : stopAt b Q := by
  cases Q with
  | nil => trivial
  | cons x Q =>
    rcases h with w | ⟨w1, w2⟩
    · exact Or.inl w
    · exact Or.inr ⟨w1, by omega⟩
/-- a sign between two, the second one read by the level below -/
theorem bin_step {N n l f0 d : Nat} {bt : Nat → Nat} {x2 x3 : Int32} {rc : Nat → Mem → Option Mem} {g' : Nat} (hN : 1000 ≤ N) (R : LV N n l f0 bt x2 x3 d rc g') (RF : ∀ m : Mem, ¬ m.1 99 30 = 0 → rc g' m = some m) {V Q : List Nat} {k c s i p pl nn x : Nat} {mC mR : Mem} (hd : c < 64 → 7 * (8 - k) + (64 - (c + 1)) + (16 - g') ≤ d) (h : LQ l f0 V Q k c s mC mR) (t : LT n bt i p pl mC mR) (hf : nn + i = N) (d5 : mC.1 2 5 = 0) (hx : isOp x = true) (hx13 : x ≠ 13) (ek : mC.1 5 4 = zN x) (hV : ∀ v, v ∈ V → bnd x ≤ bnd v) (hQ : stopAt (bnd x) Q) (hc4 : bnd x = 4 → mC.1 4 k = 0) (h01 : mC.1 4 k = 0 ∨ mC.1 4 k = 1) (hb : bnd x < lvT g') (hbv : bnd x ≤ lvV g') (hg1 : g' ≤ 2 → bnd x < 4) (hg2 : 3 ≤ g' → 4 ≤ bnd x) : ∃ mR1, (fX12_knot mR).bind (fun q6 => (fX12_goOn N q6).bind (fun q8 => (rc g' q8).bind (fun q10 => fX12_puts (2 : Int32) (zN (opc x)) q10))) = some mR1 ∧ LvRes N n l f0 bt x2 x3 (bnd x) (lvT g') (lvW g' (if bnd x = 4 then 1 else if bnd x < 4 then 0 else mC.1 4 k)) 1 nn i s (s + V.length) k (c + 1) p Q mC mR mR1 := by
  obtain ⟨mRa, e1, r1⟩ := sgn_step (x2 := x2) (x3 := x3) hN h t hf d5 hx hx13 ek hV hQ hc4 h01
  rw [b_as e1]
  rcases r1 with ⟨mCa, a1, a2, a3, a4⟩ | ⟨a0, mCa, pa, pla, na, a1, a2, a3, a4, a5, a6, a7, a8, a9, a10, a11⟩
  · rw [RF _ a2.2.2, b_some, puts_f a2.2.2]
    exact ⟨mRa, rfl, Or.inl ⟨mCa, a1, a2, a3, a4⟩⟩
  · have x35 := (isOp_lt hx).1
    have c64 := a3.kn.1
    obtain ⟨mRb, e2, r2⟩ := R (x :: Q) k (c + 1) (s + V.length) (i + 1) pa pla na mCa mRa (hd (by omega)) a3 a4 a2 a5 (Or.inr ⟨x35, hb⟩) (by
      rw [a7]
      by_cases w : bnd x = 4
      · rw [if_pos w]
        exact Or.inr rfl
      · rw [if_neg w]
        by_cases w2 : bnd x < 4
        · rw [if_pos w2]
          exact Or.inl rfl
        · rw [if_neg w2]
          exact h01) (fun w => by
      have w2 := hg1 w
      rw [a6, a7, if_neg (by omega), if_pos w2, if_pos w2]
      exact ⟨rfl, rfl⟩) (fun w _ => by
      have w2 := hg2 w
      rw [a6, if_neg (by omega)])
    rw [e2, b_some]
    rw [a7] at r2
    rcases r2 with ⟨mCb, b1, b2, b3, b4⟩ | ⟨V', c', s', i', p', pl', nn', mC', b1, b2, b3, b4, b5, b6, b7, b8, b9, b10, b11, b12, b13, b14, b15⟩
    · rw [puts_f b2.2.2]
      exact ⟨mRb, rfl, Or.inl ⟨mCb, a1.trans b1, b2, a10.tr b3 (by omega) (Nat.le_refl k), a11.tr b4 (Nat.le_refl _)⟩⟩
    · obtain ⟨mRc, e3, q1, q2, q3, q4⟩ := b3.sgn hx
      rw [e3]
      have oc := opc_ok x x35 hx hx13
      have el : (V' ++ [x]).length = V'.length + 1 := by rw [List.length_append, List.length_singleton]
      refine ⟨mRc, rfl, Or.inr ⟨V' ++ [x], c', s', i', p', pl', nn', mC', a1.trans b1, b2, q1, b4.cong (fun _ _ _ => rfl) (fun cc j w => q4 cc j (by omega) (by omega)), b5, b6, fun v hv => ?_, b8, b9, by omega, by omega, by omega, a10.tr b13 (by omega) (Nat.le_refl k), fun cc j w1 w2 w3 => ?_, fun D => ?_⟩⟩
      · rcases List.mem_append.mp hv with w | w
        · exact Nat.le_trans hbv (b7 v w)
        · rw [List.mem_singleton] at w
          rw [w]
          exact Nat.le_refl _
      · rw [q4 cc j w2 (by omega)]
        exact (a11.tr b14 (Nat.le_refl _)) cc j w1 w2 w3
      · have S1 : RSeg mRc (s + V.length) (s' + V'.length) (D + 1) (D + 2) := (b15 (D + 1)).cong (fun cc j w1 w2 w3 => q4 cc _ (by omega) (by omega))
        have S2 : RSeg mRc (s' + V'.length) (s' + V'.length + 1) (D + 2) (D + 1) := RSeg.one (by
          rw [q2, q3]
          exact Or.inr (Or.inr (Or.inr ⟨rfl, zne (by omega) (by omega) oc.1, by omega, by omega⟩)))
        rw [el, ← Nat.add_assoc]
        exact S1.cat S2 b11 (by omega)
