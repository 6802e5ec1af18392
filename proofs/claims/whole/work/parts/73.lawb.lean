/-! a law being read: what stands between the two -/
def bnd (x : Nat) : Nat := [0, 0, 0, 0, 0, 0, 0, 0, 0, 0, 0, 1, 2, 3, 0, 0, 0, 0, 0, 0, 0, 0, 0, 0, 0, 4, 4, 4, 4, 4, 4, 5, 5, 6, 6].getD x 0
def opc (x : Nat) : Nat := [0, 0, 0, 0, 0, 0, 0, 0, 0, 0, 0, 262, 261, 260, 0, 0, 0, 0, 0, 0, 0, 0, 0, 0, 0, 60, 256, 61, 257, 258, 62, 43, 45, 42, 47].getD x 0
theorem bnd_ok : ∀ x, x < 35 → fX8_binding (zN x) mZ0 = some (zN (bnd x)) ∧ bnd x ≤ 6 := by decide +kernel
theorem binding_ok {x : Nat} (h : x < 35) (m : Mem) : fX8_binding (zN x) m = some (zN (bnd x)) := (bnd_ok x h).1
theorem binding_neg (m : Mem) : fX8_binding (-1 : Int32) m = some 0 ∧ fX8_binding (-2 : Int32) m = some 0 ∧ fX8_binding (-3 : Int32) m = some 0 := ⟨rfl, rfl, rfl⟩
def isOp (x : Nat) : Bool := decide (x = 11 ∨ x = 12 ∨ x = 13 ∨ (25 ≤ x ∧ x ≤ 34))
theorem isOp_lt {x : Nat} (h : isOp x = true) : x < 35 ∧ x ≠ 23 ∧ x ≠ 24 ∧ x ≠ 22 ∧ 1 ≤ bnd x ∧ 11 ≤ x := by
  have h : x = 11 ∨ x = 12 ∨ x = 13 ∨ (25 ≤ x ∧ x ≤ 34) := of_decide_eq_true h
  refine ⟨by omega, by omega, by omega, by omega, ?_, by omega⟩
  have d : ∀ x, x < 35 → x = 11 ∨ x = 12 ∨ x = 13 ∨ (25 ≤ x ∧ x ≤ 34) → 1 ≤ bnd x := by decide
  exact d x (by omega) h
/-- the waiting signs, the last one first -/
def Pd (m : Mem) : List Nat → Prop
  | [] => True
  | t :: T => m.1 3 T.length = zN t ∧ Pd m T
theorem Pd.cong {m m' : Mem} : ∀ T : List Nat, Pd m T → (∀ j, j < T.length → m'.1 3 j = m.1 3 j) → Pd m' T := by
  intro T
  induction T with
  | nil => exact fun _ _ => trivial
  | cons t T ih =>
    intro h e
    exact ⟨(e _ (by simp)).trans h.1, ih h.2 (fun j hj => e j (by simp; omega))⟩
theorem Pd.tl {m : Mem} {t : Nat} {T : List Nat} (h : Pd m (t :: T)) : Pd m T := h.2
theorem Pd.dr {m : Mem} : ∀ V Q : List Nat, Pd m (V ++ Q) → Pd m Q := by
  intro V
  induction V with
  | nil => exact fun _ h => h
  | cons v V ih => exact fun Q h => ih Q h.2
def nS : List Nat → Nat
  | [] => 0
  | t :: T => (if t = 23 then 0 else 1) + nS T
def nO : List Nat → Nat
  | [] => 0
  | t :: T => (if t = 23 then 1 else 0) + nO T
theorem nSO : ∀ T : List Nat, nS T + nO T = T.length := by
  intro T
  induction T with
  | nil => rfl
  | cons t T ih =>
    rw [nS, nO, List.length_cons]
    by_cases q : t = 23
    · rw [if_pos q, if_pos q]
      omega
    · rw [if_neg q, if_neg q]
      omega
theorem nS_app : ∀ V Q : List Nat, nS (V ++ Q) = nS V + nS Q := by
  intro V
  induction V with
  | nil =>
    intro Q
    rw [List.nil_append, nS]
    omega
  | cons v V ih =>
    intro Q
    rw [List.cons_append, nS, nS, ih]
    omega
theorem nO_app : ∀ V Q : List Nat, nO (V ++ Q) = nO V + nO Q := by
  intro V
  induction V with
  | nil =>
    intro Q
    rw [List.nil_append, nO]
    omega
  | cons v V ih =>
    intro Q
    rw [List.cons_append, nO, nO, ih]
    omega
theorem nS_ops : ∀ V : List Nat, (∀ v, v ∈ V → isOp v = true) → nS V = V.length ∧ nO V = 0 := by
  intro V
  induction V with
  | nil => exact fun _ => ⟨rfl, rfl⟩
  | cons v V ih =>
    intro h
    have a := (isOp_lt (h v (by simp))).2.1
    obtain ⟨b, c⟩ := ih (fun w hw => h w (by simp [hw]))
    rw [nS, nO, if_neg a, if_neg a, List.length_cons, b, c]
    omega
def stopAt (b : Nat) : List Nat → Prop
  | [] => True
  | q :: _ => q = 23 ∨ (q < 35 ∧ bnd q < b)
theorem put_ok {l s : Nat} {x y : Int32} {m : Mem} (e : m.1 l 7 = zN s) (hs : s < 64) : fX3_put l x y m = some (mI (mI (mI m (l + 1) s x) (l + 2) s y) l 7 (zN (s + 1))) := by
  unfold fX3_put
  rw [e, if_neg (znn (by omega)), if_neg (show ¬ ((64 : Int32) ≤ zN s) from zle (a := 64) (by omega) (by omega) (by omega)), g_in (by omega) (by omega)]
  rw [mI_n (by omega), e, g_in (by omega) (by omega), zN_cl (by omega), mI_n (by omega), mI_n (by omega), e, zN_s]
theorem unload_ok {N l b : Nat} {Q : List Nat} (hl : 5 < l) (hb : b ≤ 6) (hq : stopAt b Q) : ∀ (V : List Nat) (nn s : Nat) (m : Mem), (∀ v, v ∈ V → isOp v = true ∧ b ≤ bnd v) → V.length < nn → (V ++ Q).length ≤ 72 → Pd m (V ++ Q) → m.1 2 3 = zN (V ++ Q).length → m.1 l 7 = zN s → s + V.length ≤ 64 → ∃ M, fX8_unload_7 N nn l (zN b) (zN (V ++ Q).length + (-1 : Int32)) m = some M ∧ M.1 2 3 = zN Q.length ∧ M.1 l 7 = zN (s + V.length) ∧ (∀ j, j < V.length → M.1 (l + 1) (s + j) = zN (V.getD j 0) ∧ M.1 (l + 2) (s + j) = 0) ∧ (∀ c k, ¬ (c = 2 ∧ k = 3) → ¬ (c = l ∧ k = 7) → ¬ ((c = l + 1 ∨ c = l + 2) ∧ s ≤ k) → M.1 c k = m.1 c k) ∧ M.2 = m.2 := by
  intro V
  induction V with
  | nil =>
    intro nn s m hV hn hlen hP hw hs hb2
    obtain ⟨nn', rfl, _⟩ := fuel (show 0 < nn by have : ([] : List Nat).length = 0 := rfl; omega)
    refine ⟨m, ?_, hw, by rw [hs]; rfl, fun j hj => absurd hj (by simp), fun _ _ _ _ _ => rfl, rfl⟩
    cases Q with
    | nil =>
      rw [fX8_unload_7, if_pos (by decide)]
    | cons q Q =>
      rw [List.nil_append, List.length_cons] at hlen
      have hP : m.1 3 Q.length = zN q := hP.1
      rw [List.nil_append, List.length_cons, zdn, fX8_unload_7, if_neg (znn (by omega)), if_neg (show ¬ (Int32.ofNat 72 ≤ zN Q.length) from zle (a := 72) (by omega) (by omega) (by omega)), g_in (by omega) (by omega), zN_cl (by omega), hP]
      rcases hq with q1 | ⟨q1, q2⟩
      · rw [if_pos (show zN q = (23 : Int32) from by rw [q1]; rfl)]
      · have q3 := (bnd_ok q q1).2
        by_cases y : zN q = (23 : Int32)
        · rw [if_pos y]
        · rw [if_neg y, binding_ok q1, b_some, if_neg (zle (by omega) (by omega) q2)]
  | cons v V ih =>
    intro nn s m hV hn hlen hP hw hs hb2
    rw [List.length_cons] at hn hb2
    rw [List.cons_append, List.length_cons] at hlen
    obtain ⟨nn', rfl, hn⟩ := fuel (show V.length < nn by omega)
    obtain ⟨v1, v2⟩ := hV v (by simp)
    obtain ⟨w1, w2, _⟩ := isOp_lt v1
    have w3 := (bnd_ok v w1).2
    have hP1 : m.1 3 (V ++ Q).length = zN v := hP.1
    rw [List.cons_append, List.length_cons, zdn, fX8_unload_7, if_neg (znn (by omega)), if_neg (show ¬ (Int32.ofNat 72 ≤ zN (V ++ Q).length) from zle (a := 72) (by omega) (by omega) (by omega)), g_in (by omega) (by omega), zN_cl (by omega), hP1, if_neg (show ¬ (zN v = (23 : Int32)) from zne (c := 23) (by omega) (by omega) w2), binding_ok w1, b_some, if_pos (zle' (by omega) (by omega) v2), put_ok hs (by omega), b_some]
    obtain ⟨M, r1, r2, r3, r4, r5, r6⟩ := ih nn' (s + 1) (mI (mI (mI (mI m (l + 1) s (zN v)) (l + 2) s 0) l 7 (zN (s + 1))) 2 3 (zN (V ++ Q).length)) (fun w hw => hV w (by simp [hw])) (by omega) (by omega) (hP.2.cong _ (fun j _ => by rw [mI_n (by omega), mI_n (by omega), mI_n (by omega), mI_n (by omega)])) (mI_s ⟨rfl, rfl⟩) (by rw [mI_n (by omega), mI_s ⟨rfl, rfl⟩]) (by omega)
    refine ⟨M, r1, r2, by rw [r3, List.length_cons]; rw [show s + 1 + V.length = s + (V.length + 1) from by omega], fun j hj => ?_, fun c k p1 p2 p3 => ?_, r6⟩
    · by_cases y : j = 0
      · rw [y]
        refine ⟨?_, ?_⟩
        · rw [r5 _ _ (by omega) (by omega) (by omega), mI_n (by omega), mI_n (by omega), mI_n (by omega), mI_s (by omega)]
          rfl
        · rw [r5 _ _ (by omega) (by omega) (by omega), mI_n (by omega), mI_n (by omega), mI_s (by omega)]
      · obtain ⟨j', rfl⟩ : ∃ j', j = j' + 1 := ⟨j - 1, by omega⟩
        rw [List.length_cons] at hj
        have := r4 j' (by omega)
        rw [show s + 1 + j' = s + (j' + 1) from by omega] at this
        exact this
    · rw [r5 c k p1 p2 (by omega), mI_n (by omega), mI_n (by omega), mI_n (by omega), mI_n (by omega)]
/-! the tokens' kinds -/
theorem sg_inj : ∀ q ∈ sgT, ∀ q' ∈ sgT, (q.1 = q'.1 ↔ q.2 = q'.2) := by decide
theorem sg_bd : ∀ q ∈ sgT, 22 ≤ q.1 ∧ q.1 ≤ 34 ∧ q.2 ≤ 258 ∧ 40 ≤ q.2 := by decide
theorem TkK.sg {kd v so va : Int32} (h : TkK kd v so va) {x y : Nat} (hx : (x, y) ∈ sgT) : (so = 3 ∧ va = zN y) ↔ kd = zN x := by
  obtain ⟨b1, b2, b3, b4⟩ := sg_bd _ hx
  dsimp only at b1 b2 b3 b4
  rcases h with ⟨h1, h2⟩ | ⟨w, w1, h1, h2, h3⟩ | ⟨h1, h2, h3⟩ | ⟨h1, h2, _⟩ | ⟨x', y', hx', h1, h2, h3⟩ | ⟨h1, h2⟩
  · rw [h1, h2]
    exact ⟨fun z => absurd z.1 (by decide), fun z => by
      have z := z.symm
      rw [zN_m1 (by omega)] at z
      exact z.elim⟩
  · rw [h1, h2]
    exact ⟨fun z => absurd z.1 (by decide), fun z => by
      rw [zN_eq (by omega) (by omega)] at z
      omega⟩
  · rw [h1, h2]
    exact ⟨fun z => absurd z.1 (by decide), fun z => by
      have z : (-3 : Int32) = zN x := z
      have e := congrArg Int32.toInt z
      rw [zN_toInt (by omega), show (-3 : Int32).toInt = -3 from rfl] at e
      omega⟩
  · rw [h1, h2]
    exact ⟨fun z => absurd z.1 (by decide), fun z => by
      have z : zN 21 = zN x := z
      rw [zN_eq (by omega) (by omega)] at z
      omega⟩
  · obtain ⟨c1, c2, c3, c4⟩ := sg_bd _ hx'
    dsimp only at c1 c2 c3 c4
    have I := sg_inj _ hx' _ hx
    dsimp only at I
    rw [h1, h2, h3]
    rw [zN_eq (by omega) (by omega), zN_eq (by omega) (by omega), I]
    exact ⟨fun z => z.2, fun z => ⟨rfl, z⟩⟩
  · rw [h1, h2]
    exact ⟨fun z => absurd z.1 (by decide), fun z => by
      have z := z.symm
      rw [zN_m2 (by omega)] at z
      exact z.elim⟩
theorem TkK.wd {kd v so va : Int32} (h : TkK kd v so va) {w : Nat} (hw : w < 21) : (so = 0 ∧ va = zN w) ↔ kd = zN w := by
  rcases h with ⟨h1, h2⟩ | ⟨w', w1, h1, h2, h3⟩ | ⟨h1, h2, h3⟩ | ⟨h1, h2, _⟩ | ⟨x', y', hx', h1, h2, h3⟩ | ⟨h1, h2⟩
  · rw [h1, h2]
    exact ⟨fun z => absurd z.1 (by decide), fun z => by
      have z := z.symm
      rw [zN_m1 (by omega)] at z
      exact z.elim⟩
  · rw [h1, h2, h3]
    exact ⟨fun z => z.2, fun z => ⟨rfl, z⟩⟩
  · rw [h1, h2]
    exact ⟨fun z => absurd z.1 (by decide), fun z => by
      have e := congrArg Int32.toInt z
      rw [zN_toInt (by omega), show (-3 : Int32).toInt = -3 from rfl] at e
      omega⟩
  · rw [h1, h2]
    exact ⟨fun z => absurd z.1 (by decide), fun z => by
      have z : zN 21 = zN w := z
      rw [zN_eq (by omega) (by omega)] at z
      omega⟩
  · obtain ⟨c1, c2, c3, c4⟩ := sg_bd _ hx'
    dsimp only at c1 c2 c3 c4
    rw [h1, h2]
    exact ⟨fun z => absurd z.1 (by decide), fun z => by
      rw [zN_eq (by omega) (by omega)] at z
      omega⟩
  · rw [h1, h2]
    exact ⟨fun z => absurd z.1 (by decide), fun z => by
      have z := z.symm
      rw [zN_m2 (by omega)] at z
      exact z.elim⟩
theorem TkK.nm {kd v so va : Int32} (h : TkK kd v so va) : (so = 2 ↔ kd = 21) ∧ (so = 1 ↔ kd = -3) ∧ (so = 4 ↔ kd = -1) := by
  rcases h with ⟨h1, h2⟩ | ⟨w', w1, h1, h2, h3⟩ | ⟨h1, h2, h3⟩ | ⟨h1, h2, _⟩ | ⟨x', y', hx', h1, h2, h3⟩ | ⟨h1, h2⟩
  · rw [h1, h2]
    decide
  · rw [h1, h2]
    refine ⟨⟨fun z => absurd z (by decide), fun z => ?_⟩, ⟨fun z => absurd z (by decide), fun z => ?_⟩, ⟨fun z => absurd z (by decide), fun z => ?_⟩⟩
    · have z : zN w' = zN 21 := z
      rw [zN_eq (by omega) (by omega)] at z
      omega
    · have e := congrArg Int32.toInt z
      rw [zN_toInt (by omega), show (-3 : Int32).toInt = -3 from rfl] at e
      omega
    · rw [zN_m1 (by omega)] at z
      exact z.elim
  · rw [h1, h2]
    decide
  · rw [h1, h2]
    decide
  · obtain ⟨c1, c2, c3, c4⟩ := sg_bd _ hx'
    dsimp only at c1 c2 c3 c4
    rw [h1, h2]
    refine ⟨⟨fun z => absurd z (by decide), fun z => ?_⟩, ⟨fun z => absurd z (by decide), fun z => ?_⟩, ⟨fun z => absurd z (by decide), fun z => ?_⟩⟩
    · have z : zN x' = zN 21 := z
      rw [zN_eq (by omega) (by omega)] at z
      omega
    · have e := congrArg Int32.toInt z
      rw [zN_toInt (by omega), show (-3 : Int32).toInt = -3 from rfl] at e
      omega
    · rw [zN_m1 (by omega)] at z
      exact z.elim
  · rw [h1, h2]
    decide
/-- every kind is a small number or one of three -/
theorem TkK.kd {kd v so va : Int32} (h : TkK kd v so va) : kd = -1 ∨ kd = -2 ∨ kd = -3 ∨ ∃ x, x < 35 ∧ kd = zN x := by
  rcases h with ⟨h1, h2⟩ | ⟨w', w1, h1, h2, h3⟩ | ⟨h1, h2, h3⟩ | ⟨h1, h2, _⟩ | ⟨x', y', hx', h1, h2, h3⟩ | ⟨h1, h2⟩
  · exact Or.inl h1
  · exact Or.inr (Or.inr (Or.inr ⟨w', by omega, h1⟩))
  · exact Or.inr (Or.inr (Or.inl h1))
  · exact Or.inr (Or.inr (Or.inr ⟨21, by omega, h1⟩))
  · obtain ⟨c1, c2, c3, c4⟩ := sg_bd _ hx'
    dsimp only at c1 c2
    exact Or.inr (Or.inr (Or.inr ⟨x', by omega, h1⟩))
  · exact Or.inr (Or.inl h1)
theorem isSign_ok {x y : Nat} {mC mR : Mem} (hx : (x, y) ∈ sgT) (h : TkK (mC.1 5 4) (mC.1 5 6) (mR.1 99 28) (mR.1 99 29)) (f : mR.1 99 30 = 0) : fX12_isSign (zN y) mR = some (if mC.1 5 4 = zN x then 1 else 0) := by
  have S := h.sg hx
  unfold fX12_isSign
  rw [if_pos f]
  by_cases q : mC.1 5 4 = zN x
  · obtain ⟨a, b⟩ := S.mpr q
    rw [if_pos q, if_pos a, if_pos b]
  · rw [if_neg q]
    by_cases w : mR.1 99 28 = 3
    · rw [if_pos w, if_neg (fun z => q (S.mp ⟨w, z⟩))]
    · rw [if_neg w]
theorem isWord_ok {w : Nat} {mC mR : Mem} (hw : w < 21) (h : TkK (mC.1 5 4) (mC.1 5 6) (mR.1 99 28) (mR.1 99 29)) (f : mR.1 99 30 = 0) : fX12_isWord (zN w) mR = some (if mC.1 5 4 = zN w then 1 else 0) := by
  have S := h.wd hw
  unfold fX12_isWord
  rw [if_pos f]
  by_cases q : mC.1 5 4 = zN w
  · obtain ⟨a, b⟩ := S.mpr q
    rw [if_pos q, if_pos a, if_pos b]
  · rw [if_neg q]
    by_cases y : mR.1 99 28 = 0
    · rw [if_pos y, if_neg (fun z => q (S.mp ⟨y, z⟩))]
    · rw [if_neg y]
theorem isSign_f {x : Int32} {mR : Mem} (f : ¬ mR.1 99 30 = 0) : fX12_isSign x mR = some 0 := by
  unfold fX12_isSign
  rw [if_neg f]
theorem isWord_f {x : Int32} {mR : Mem} (f : ¬ mR.1 99 30 = 0) : fX12_isWord x mR = some 0 := by
  unfold fX12_isWord
  rw [if_neg f]
/-- once at fault, nothing more is read -/
theorem grp_f {N : Nat} {m : Mem} (hN : 1 ≤ N) (f : ¬ m.1 99 30 = 0) : ∀ d, (1 ≤ d → fGrp N d 5 m = some m) ∧ (2 ≤ d → fGrp N d 4 m = some m) ∧ (3 ≤ d → fGrp N d 3 m = some m) ∧ (4 ≤ d → fGrp N d 2 m = some m) ∧ (5 ≤ d → fGrp N d 1 m = some m) ∧ (6 ≤ d → fGrp N d 0 m = some m) := by
  obtain ⟨N', rfl, _⟩ := fuel (show 0 < N by omega)
  intro d
  induction d with
  | zero => exact ⟨fun z => absurd z (by omega), fun z => absurd z (by omega), fun z => absurd z (by omega), fun z => absurd z (by omega), fun z => absurd z (by omega), fun z => absurd z (by omega)⟩
  | succ d ih =>
    obtain ⟨i5, i4, i3, i2, i1, i0⟩ := ih
    refine ⟨fun _ => ?_, fun z => ?_, fun z => ?_, fun z => ?_, fun z => ?_, fun z => ?_⟩
    · rw [fGrp, fX12_primary, if_neg f]
    · rw [fGrp, fX12_product, i5 (by omega), b_some, fX12_product_4, isSign_f f, b_some, if_pos rfl, isSign_f f, b_some, if_pos rfl]
    · rw [fGrp, fX12_sum, i4 (by omega), b_some, fX12_sum_4, isSign_f f, b_some, if_pos rfl, isSign_f f, b_some, if_pos rfl]
    · rw [fGrp, fX12_negation, isWord_f f, b_some, if_pos rfl, i3 (by omega), b_some, if_neg f]
    · rw [fGrp, fX12_conjunction, i2 (by omega), b_some, fX12_conjunction_4, isWord_f f, b_some, if_pos rfl]
    · rw [fGrp, fX12_expression, i1 (by omega), b_some, fX12_expression_4, isWord_f f, b_some, if_pos rfl]
