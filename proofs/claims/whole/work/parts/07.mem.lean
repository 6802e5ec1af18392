/-! the memory of both sides: numbers by cell and place; which cells there are -/
abbrev Mem : Type := (Nat → Nat → Int32) × (Nat → Nat → Int64) × (Nat → Nat)
def mI (m : Mem) (b k : Nat) (v : Int32) : Mem := (va_up m.1 b (upd (m.1 b) k v), m.2)
def mJ (m : Mem) (b k : Nat) (v : Int64) : Mem := (m.1, va_up m.2.1 b (vp_updL (m.2.1 b) k v), m.2.2)
def mR (m : Mem) (k q : Nat) : Mem := (m.1, m.2.1, va_up m.2.2 k q)
def mC (m : Mem) (a sp b dp n : Nat) : Mem := (va_up m.1 b (va_cpy (m.1 a) (m.1 b) sp dp n), m.2)
def layL : List (Nat × Nat) := [(0, 11), (3, 700), (0, 8), (1, 72), (2, 9), (0, 10), (1, 21), (0, 6), (0, 9), (1, 18), (0, 9), (1, 18), (0, 9), (1, 36), (0, 9), (1, 30), (0, 9), (1, 24), (0, 3), (1, 64), (1, 64), (1, 3), (1, 3), (4, 7), (4, 64), (0, 6), (0, 9), (1, 18), (0, 9), (1, 18), (0, 9), (1, 36), (0, 9), (1, 30), (0, 9), (1, 24), (0, 3), (1, 64), (1, 64), (1, 3), (1, 3), (4, 7), (4, 64), (0, 0), (1, 6), (1, 6), (1, 6), (1, 6), (1, 6), (1, 6), (1, 6), (1, 6), (1, 6), (0, 0), (1, 6), (1, 6), (1, 6), (1, 6), (1, 6), (1, 6), (1, 6), (1, 6), (1, 6), (0, 0), (1, 6), (1, 6), (1, 6), (1, 6), (1, 6), (1, 6), (1, 6), (1, 6), (1, 6), (0, 5), (0, 7), (1, 480), (0, 1), (1, 24), (1, 24), (1, 24), (2, 24), (1, 24), (2, 24), (0, 2), (0, 0), (1, 6), (1, 6), (1, 6), (1, 6), (1, 6), (1, 6), (1, 6), (1, 6), (1, 6), (4, 10), (0, 4), (1, 448), (2, 36), (1, 6), (0, 12), (1, 700), (1, 16), (1, 12), (1, 12), (1, 12), (1, 12), (1, 12), (1, 12), (1, 24), (1, 24), (1, 24), (1, 20), (1, 20), (1, 20), (1, 16), (1, 16), (1, 16), (1, 6), (1, 6), (1, 128), (1, 128), (4, 7), (4, 64), (1, 23), (1, 23), (1, 23), (1, 138), (1, 138), (1, 138), (1, 138), (1, 138), (1, 138), (1, 138), (1, 138), (1, 6), (1, 6), (1, 24), (1, 24), (1, 24), (2, 24), (1, 24), (2, 24), (1, 61), (4, 1)]
def lay (b : Nat) : Nat × Nat := layL.getD b (9, 0)
/-- which cells stand: from ca 10 on, ahead of ca 9 -/
def ly (ca : Nat → Nat) (b : Nat) : Nat × Nat := if ca 10 ≤ b ∧ b < ca 9 then lay b else (9, 0)
def fkL : List (List Nat) := [[2, 2, 2, 2, 2, 2, 2, 2, 2, 0, 0, 1], [2, 2, 2, 2, 2, 2, 0, 0], [2, 2, 0, 0, 0], [2, 2, 2, 2, 2, 2, 0, 0], [2, 2, 2, 0, 0], [0, 0, 0, 0], [2, 2, 2, 2, 2, 2, 0, 0, 0, 0, 0], [2, 0], [2, 2, 2, 0, 0, 0, 0, 0, 0], [0, 2, 0], [2, 2, 0, 0, 0, 0, 0], [2, 0, 2, 2, 2, 2, 2, 2, 0, 2, 2, 2, 2, 2], [0, 2, 0, 2, 2, 2, 2, 2, 2, 2, 2, 2, 2, 2, 2, 2, 2, 2, 2, 2, 2, 2, 2, 0, 0, 0, 0, 0, 0, 0, 0, 0, 0, 0, 0, 0, 2, 2, 0, 2, 2, 2, 2, 2, 2, 2, 2, 2, 2, 2, 0, 0, 0, 0, 2, 2, 0, 0, 0, 0, 2, 2, 2, 2, 2, 2, 2]]
def fk (c k : Nat) : Nat := (fkL.getD c []).getD k 9
def nf (c : Nat) : Nat := (fkL.getD c []).length
def ofL : List (List Nat) := [[1, 2, 3, 4, 5, 6, 7, 8, 9, 0, 0, 0], [1, 2, 3, 4, 5, 6, 0, 0], [1, 11, 0, 0, 0], [1, 2, 3, 4, 5, 6, 0, 0], [1, 2, 3, 0, 0], [0, 0, 0, 0], [1, 3, 5, 7, 9, 11, 0, 0, 0, 0, 0], [1, 0], [3, 1, 2, 0, 0, 0, 0, 0, 0], [0, 1, 0], [0, 1, 0, 0, 0, 0, 0], [1, 0, 2, 0, 0, 43, 53, 63, 0, 73, 74, 76, 83, 95], [0, 1, 0, 2, 3, 4, 5, 6, 7, 8, 9, 10, 11, 12, 13, 14, 15, 16, 17, 18, 19, 20, 21, 0, 0, 0, 0, 0, 0, 0, 0, 0, 0, 0, 0, 0, 22, 23, 0, 24, 25, 26, 27, 28, 29, 30, 31, 32, 33, 34, 0, 0, 0, 0, 35, 36, 0, 0, 0, 0, 37, 38, 39, 40, 41, 42, 43]]
def rfi (m : Mem) (c b k : Nat) : Nat := if c = 11 ∧ (k = 3 ∨ k = 4) then m.2.2 k else if c = 10 ∧ k = 0 then 1 else b + (ofL.getD c []).getD k 0
def fval (ad : Nat → Nat) (m : Mem) (c b k : Nat) : Value := if fk c k = 0 then .int (m.1 b k) else if fk c k = 1 then .long (m.2.1 b k) else .ref (ad (rfi m c b k))
def flds (ad : Nat → Nat) (m : Mem) (c b : Nat) : List Value := (List.range (nf c)).map (fval ad m c b)
def cont (ca : Nat → ClassId) (ad : Nat → Nat) (m : Mem) (b : Nat) : va_E := if (lay b).1 = 0 then .inr ((lay b).2, flds ad m (lay b).2 b) else if (lay b).1 = 4 then .inl (ca 3, (lay b).2, .inr (.inl (m.2.1 b))) else .inl (ca ((lay b).1 - 1), (lay b).2, .inl (m.1 b))
def wl (ca : Nat → ClassId) (ad : Nat → Nat) (m : Mem) : va_W := (List.range (ca 9 - ca 10)).map (fun i => (ad (ca 10 + i), cont ca ad m (ca 10 + i)))
abbrev clsL : List vw_C := [(RX0, TX0, 12), (RX1, TX1, 8), (RX2, TX2, 5), (RX3, TX3, 8), (RX4, TX4, 5), (RX5, TX5, 4), (RX6, TX6, 11), (RX7, TX7, 2), (RX8, TX8, 9), (RX9, TX9, 3), (RX10, TX10, 7), (RX11, TX11, 14), (RX12, TX12, 67)]
abbrev tyA (ca : Nat → ClassId) : List (ClassId × FieldType) := [(ca 0, .int), (ca 1, .boolean), (ca 2, .byte), (ca 3, .long)]
def BIG : List Cond := lw_tbl.filter goodWord
theorem lay_lt {b k n : Nat} (h : lay b = (k, n)) (hk : k ≠ 9) : b < 144 := by
  rcases Nat.lt_or_ge b 144 with q | q
  · exact q
  · have e : lay b = (9, 0) := by
      show (layL[b]?).getD (9, 0) = (9, 0)
      rw [List.getElem?_eq_none q]
      rfl
    rw [e] at h
    exact absurd (congrArg Prod.fst h).symm hk
theorem ly_lt {ca : Nat → Nat} {b k n : Nat} (h : ly ca b = (k, n)) (hk : k ≠ 9) : ca 10 ≤ b ∧ b < ca 9 := by
  unfold ly at h
  by_cases q : ca 10 ≤ b ∧ b < ca 9
  · exact q
  · rw [if_neg q] at h
    exact absurd (congrArg Prod.fst h).symm hk
theorem ly_lay {ca : Nat → Nat} {b k n : Nat} (h : ly ca b = (k, n)) (hk : k ≠ 9) : lay b = (k, n) := by
  have q := ly_lt h hk
  unfold ly at h
  rw [if_pos q] at h
  exact h
theorem ly_of {ca : Nat → Nat} {b : Nat} {x : Nat × Nat} (hb : ca 10 ≤ b ∧ b < ca 9) (h : lay b = x) : ly ca b = x := by
  unfold ly
  rw [if_pos hb, h]
theorem ly_self {ca : Nat → Nat} {b k n : Nat} (h : ly ca b = (k, n)) (hk : k ≠ 9 := by decide) : ly ca b = (k, (lay b).2) := by
  rw [h, ly_lay h hk]
/-- the class's own cells stand; the reference's -/
def HNc (ca : Nat → Nat) : Prop := ca 10 = 0 ∧ 99 ≤ ca 9
def HNr (ca : Nat → Nat) : Prop := ca 10 ≤ 99 ∧ 143 ≤ ca 9
theorem HNc.in {ca : Nat → Nat} (h : HNc ca) {b : Nat} (hb : b < 99) : ca 10 ≤ b ∧ b < ca 9 := ⟨by rw [h.1]; exact Nat.zero_le b, Nat.lt_of_lt_of_le hb h.2⟩
theorem HNr.in {ca : Nat → Nat} (h : HNr ca) {b : Nat} (h1 : 99 ≤ b) (h2 : b < 143) : ca 10 ≤ b ∧ b < ca 9 := ⟨Nat.le_trans h.1 h1, Nat.lt_of_lt_of_le h2 h.2⟩
theorem wl_at {ca : Nat → ClassId} {ad : Nat → Nat} {m : Mem} {b : Nat} (h : ca 10 ≤ b ∧ b < ca 9) : (wl ca ad m)[b - ca 10]? = some (ad b, cont ca ad m b) := by
  have e : ca 10 + (b - ca 10) = b := Nat.add_sub_cancel' h.1
  have h1 : b - ca 10 < ca 9 - ca 10 := Nat.sub_lt_sub_right h.1 h.2
  unfold wl
  rw [List.getElem?_map, List.getElem?_range h1]
  show some (ad (ca 10 + (b - ca 10)), cont ca ad m (ca 10 + (b - ca 10))) = _
  rw [e]
theorem wl_len {ca : Nat → ClassId} {ad : Nat → Nat} {m : Mem} : (wl ca ad m).length = ca 9 - ca 10 := by
  unfold wl
  rw [List.length_map, List.length_range]
theorem wl_at2 {ca : Nat → ClassId} {ad : Nat → Nat} {m : Mem} {i : Nat} (h : i < ca 9 - ca 10) : (wl ca ad m)[i]? = some (ad (ca 10 + i), cont ca ad m (ca 10 + i)) := by
  unfold wl
  rw [List.getElem?_map, List.getElem?_range h]
  rfl
theorem cont_o {ca : Nat → ClassId} {ad : Nat → Nat} {m : Mem} {b c : Nat} (h : lay b = (0, c)) : cont ca ad m b = .inr (c, flds ad m c b) := by
  unfold cont
  rw [h]
  rfl
theorem cont_i {ca : Nat → ClassId} {ad : Nat → Nat} {m : Mem} {b n : Nat} (h : lay b = (1, n)) : cont ca ad m b = .inl (ca 0, n, .inl (m.1 b)) := by
  unfold cont
  rw [h]
  rfl
theorem cont_z {ca : Nat → ClassId} {ad : Nat → Nat} {m : Mem} {b n : Nat} (h : lay b = (2, n)) : cont ca ad m b = .inl (ca 1, n, .inl (m.1 b)) := by
  unfold cont
  rw [h]
  rfl
theorem cont_b {ca : Nat → ClassId} {ad : Nat → Nat} {m : Mem} {b n : Nat} (h : lay b = (3, n)) : cont ca ad m b = .inl (ca 2, n, .inl (m.1 b)) := by
  unfold cont
  rw [h]
  rfl
theorem cont_l {ca : Nat → ClassId} {ad : Nat → Nat} {m : Mem} {b n : Nat} (h : lay b = (4, n)) : cont ca ad m b = .inl (ca 3, n, .inr (.inl (m.2.1 b))) := by
  unfold cont
  rw [h]
  rfl
theorem wl_o {ca : Nat → ClassId} {ad : Nat → Nat} {m : Mem} {b c : Nat} (h : ly ca b = (0, c)) : (wl ca ad m)[b - ca 10]? = some (ad b, .inr (c, flds ad m c b)) := by
  rw [wl_at (ly_lt h (by decide)), cont_o (ly_lay h (by decide))]
theorem wl_i {ca : Nat → ClassId} {ad : Nat → Nat} {m : Mem} {b n : Nat} (h : ly ca b = (1, n)) : (wl ca ad m)[b - ca 10]? = some (ad b, .inl (ca 0, n, .inl (m.1 b))) := by
  rw [wl_at (ly_lt h (by decide)), cont_i (ly_lay h (by decide))]
theorem wl_z {ca : Nat → ClassId} {ad : Nat → Nat} {m : Mem} {b n : Nat} (h : ly ca b = (2, n)) : (wl ca ad m)[b - ca 10]? = some (ad b, .inl (ca 1, n, .inl (m.1 b))) := by
  rw [wl_at (ly_lt h (by decide)), cont_z (ly_lay h (by decide))]
theorem wl_b {ca : Nat → ClassId} {ad : Nat → Nat} {m : Mem} {b n : Nat} (h : ly ca b = (3, n)) : (wl ca ad m)[b - ca 10]? = some (ad b, .inl (ca 2, n, .inl (m.1 b))) := by
  rw [wl_at (ly_lt h (by decide)), cont_b (ly_lay h (by decide))]
theorem wl_l {ca : Nat → ClassId} {ad : Nat → Nat} {m : Mem} {b n : Nat} (h : ly ca b = (4, n)) : (wl ca ad m)[b - ca 10]? = some (ad b, .inl (ca 3, n, .inr (.inl (m.2.1 b)))) := by
  rw [wl_at (ly_lt h (by decide)), cont_l (ly_lay h (by decide))]
theorem flds_at {ad : Nat → Nat} {m : Mem} {c b k : Nat} (h : k < nf c) : (flds ad m c b)[k]? = some (fval ad m c b k) := by
  unfold flds
  rw [List.getElem?_map, List.getElem?_range h]
  rfl
theorem flds_len {ad : Nat → Nat} {m : Mem} {c b : Nat} : (flds ad m c b).length = nf c := by
  unfold flds
  rw [List.length_map, List.length_range]
theorem va_up_s {α : Type} {f : Nat → α} {k : Nat} {v : α} : va_up f k v k = v := by
  unfold va_up
  rw [if_pos rfl]
theorem va_up_n {α : Type} {f : Nat → α} {k j : Nat} {v : α} (h : j ≠ k) : va_up f k v j = f j := by
  unfold va_up
  rw [if_neg h]
/-- a memory that differs at one cell alone -/
theorem wl_set {ca : Nat → ClassId} {ad : Nat → Nat} {m m' : Mem} {b : Nat} {x : va_E} (hb : ca 10 ≤ b ∧ b < ca 9) (hx : cont ca ad m' b = x) (ho : ∀ j, j ≠ b → cont ca ad m' j = cont ca ad m j) : (wl ca ad m).set (b - ca 10) (ad b, x) = wl ca ad m' := by
  have h1 : b - ca 10 < ca 9 - ca 10 := Nat.sub_lt_sub_right hb.1 hb.2
  apply List.ext_getElem?
  intro j
  rw [List.getElem?_set]
  by_cases hj : b - ca 10 = j
  · subst hj
    rw [if_pos rfl, if_pos (by rw [wl_len]; exact h1), wl_at hb, hx]
  · rw [if_neg hj]
    by_cases hl : j < ca 9 - ca 10
    · rw [wl_at2 hl, wl_at2 hl, ho (ca 10 + j) (fun e => hj (by rw [← e]; exact Nat.add_sub_cancel_left _ _))]
    · rw [List.getElem?_eq_none (by rw [wl_len]; exact Nat.le_of_not_lt hl), List.getElem?_eq_none (by rw [wl_len]; exact Nat.le_of_not_lt hl)]
theorem cont_else {ca : Nat → ClassId} {ad : Nat → Nat} {m m' : Mem} {j : Nat} (h1 : m'.1 j = m.1 j) (h2 : m'.2.1 j = m.2.1 j) (h3 : m'.2.2 = m.2.2) : cont ca ad m' j = cont ca ad m j := by
  have e : ∀ c, flds ad m' c j = flds ad m c j := by
    intro c
    unfold flds
    congr 1
    funext k
    unfold fval rfi
    rw [h1, h2, h3]
  unfold cont
  rw [e, h1, h2]
theorem wl_setI {ca : Nat → ClassId} {ad : Nat → Nat} {m : Mem} {b c k : Nat} {v : Int32} (h0 : ly ca b = (0, c)) (hf : fk c k = 0) : (wl ca ad m).set (b - ca 10) (ad b, .inr (c, (flds ad m c b).set k (.int v))) = wl ca ad (mI m b k v) := by
  have h := ly_lay h0 (by decide)
  refine wl_set (ly_lt h0 (by decide)) ?_ (fun j hj => cont_else (va_up_n hj) rfl rfl)
  rw [cont_o h]
  congr 2
  apply List.ext_getElem?
  intro j
  rw [List.getElem?_set]
  by_cases hl : j < nf c
  · rw [flds_at hl]
    by_cases hj : k = j
    · subst hj
      rw [if_pos rfl, if_pos (by rw [flds_len]; exact hl)]
      unfold fval mI
      rw [if_pos hf]
      dsimp only
      rw [va_up_s, pk_us]
    · rw [if_neg hj, flds_at hl]
      unfold fval mI
      dsimp only
      rw [va_up_s, pk_un (fun e => hj e.symm)]
      rfl
  · rw [List.getElem?_eq_none (by rw [flds_len]; omega)]
    by_cases hj : k = j
    · rw [if_pos hj, if_neg (by rw [flds_len]; omega)]
    · rw [if_neg hj, List.getElem?_eq_none (by rw [flds_len]; omega)]
theorem wl_setJ {ca : Nat → ClassId} {ad : Nat → Nat} {m : Mem} {b c k : Nat} {v : Int64} (h0 : ly ca b = (0, c)) (hf : fk c k = 1) : (wl ca ad m).set (b - ca 10) (ad b, .inr (c, (flds ad m c b).set k (.long v))) = wl ca ad (mJ m b k v) := by
  have h := ly_lay h0 (by decide)
  refine wl_set (ly_lt h0 (by decide)) ?_ (fun j hj => cont_else rfl (va_up_n hj) rfl)
  rw [cont_o h]
  congr 2
  apply List.ext_getElem?
  intro j
  rw [List.getElem?_set]
  by_cases hl : j < nf c
  · rw [flds_at hl]
    by_cases hj : k = j
    · subst hj
      rw [if_pos rfl, if_pos (by rw [flds_len]; exact hl)]
      unfold fval mJ
      rw [hf, if_neg (by decide), if_pos rfl]
      dsimp only
      rw [va_up_s, pk_uLs]
    · rw [if_neg hj, flds_at hl]
      unfold fval mJ
      dsimp only
      rw [va_up_s, pk_uLn (fun e => hj e.symm)]
      rfl
  · rw [List.getElem?_eq_none (by rw [flds_len]; omega)]
    by_cases hj : k = j
    · rw [if_pos hj, if_neg (by rw [flds_len]; omega)]
    · rw [if_neg hj, List.getElem?_eq_none (by rw [flds_len]; omega)]
theorem wl_setA {ca : Nat → ClassId} {ad : Nat → Nat} {m : Mem} {b n k : Nat} {v : Int32} (h0 : ly ca b = (1, n)) : (wl ca ad m).set (b - ca 10) (ad b, .inl (ca 0, n, .inl (upd (m.1 b) k v))) = wl ca ad (mI m b k v) := by
  have h := ly_lay h0 (by decide)
  refine wl_set (ly_lt h0 (by decide)) ?_ (fun j hj => cont_else (va_up_n hj) rfl rfl)
  rw [cont_i h]
  unfold mI
  dsimp only
  rw [va_up_s]
theorem wl_setZ {ca : Nat → ClassId} {ad : Nat → Nat} {m : Mem} {b n k : Nat} {v : Int32} (h0 : ly ca b = (2, n)) : (wl ca ad m).set (b - ca 10) (ad b, .inl (ca 1, n, .inl (upd (m.1 b) k v))) = wl ca ad (mI m b k v) := by
  have h := ly_lay h0 (by decide)
  refine wl_set (ly_lt h0 (by decide)) ?_ (fun j hj => cont_else (va_up_n hj) rfl rfl)
  rw [cont_z h]
  unfold mI
  dsimp only
  rw [va_up_s]
theorem wl_setB {ca : Nat → ClassId} {ad : Nat → Nat} {m : Mem} {b n k : Nat} {v : Int32} (h0 : ly ca b = (3, n)) : (wl ca ad m).set (b - ca 10) (ad b, .inl (ca 2, n, .inl (upd (m.1 b) k v))) = wl ca ad (mI m b k v) := by
  have h := ly_lay h0 (by decide)
  refine wl_set (ly_lt h0 (by decide)) ?_ (fun j hj => cont_else (va_up_n hj) rfl rfl)
  rw [cont_b h]
  unfold mI
  dsimp only
  rw [va_up_s]
theorem wl_setL {ca : Nat → ClassId} {ad : Nat → Nat} {m : Mem} {b n k : Nat} {v : Int64} (h0 : ly ca b = (4, n)) : (wl ca ad m).set (b - ca 10) (ad b, .inl (ca 3, n, .inr (.inl (vp_updL (m.2.1 b) k v)))) = wl ca ad (mJ m b k v) := by
  have h := ly_lay h0 (by decide)
  refine wl_set (ly_lt h0 (by decide)) ?_ (fun j hj => cont_else rfl (va_up_n hj) rfl)
  rw [cont_l h]
  unfold mJ
  dsimp only
  rw [va_up_s]
theorem wl_setC {ca : Nat → ClassId} {ad : Nat → Nat} {m : Mem} {a b n sp dp k : Nat} (h0 : ly ca b = (1, n)) : (wl ca ad m).set (b - ca 10) (ad b, .inl (ca 0, n, .inl (va_cpy (m.1 a) (m.1 b) sp dp k))) = wl ca ad (mC m a sp b dp k) := by
  have h := ly_lay h0 (by decide)
  refine wl_set (ly_lt h0 (by decide)) ?_ (fun j hj => cont_else (va_up_n hj) rfl rfl)
  rw [cont_i h]
  unfold mC
  dsimp only
  rw [va_up_s]
theorem wl_setR {ca : Nat → ClassId} {ad : Nat → Nat} {m : Mem} {k q : Nat} (hn : HNc ca) (hk : k = 3 ∨ k = 4) : (wl ca ad m).set (0 - ca 10) (ad 0, .inr (11, (flds ad m 11 0).set k (.ref (ad q)))) = wl ca ad (mR m k q) := by
  have h : lay 0 = (0, 11) := rfl
  have hnf : nf 11 = 14 := rfl
  have hf : fk 11 k = 2 := by rcases hk with rfl | rfl <;> rfl
  refine wl_set (hn.in (by decide)) ?_ (fun j hj => ?_)
  · rw [cont_o h]
    congr 2
    apply List.ext_getElem?
    intro j
    rw [List.getElem?_set]
    by_cases hl : j < nf 11
    · rw [flds_at hl]
      by_cases hj : k = j
      · subst hj
        rw [if_pos rfl, if_pos (by rw [flds_len]; exact hl)]
        unfold fval rfi mR
        rw [hf, if_neg (by decide), if_neg (by decide), if_pos ⟨rfl, hk⟩]
        dsimp only
        rw [va_up_s]
      · rw [if_neg hj, flds_at hl]
        unfold fval rfi mR
        dsimp only
        rw [va_up_n (fun e => hj e.symm)]
    · rw [List.getElem?_eq_none (by rw [flds_len]; omega)]
      by_cases hj : k = j
      · rw [if_pos hj, if_neg (by rw [flds_len]; omega)]
      · rw [if_neg hj, List.getElem?_eq_none (by rw [flds_len]; omega)]
  · by_cases hl : j < 144
    · have hc : (lay j).1 = 0 → (lay j).2 ≠ 11 := by
        have hall : ∀ j, j < 144 → j ≠ 0 → (lay j).1 = 0 → (lay j).2 ≠ 11 := by decide +kernel
        exact hall j hl hj
      unfold cont
      by_cases h0 : (lay j).1 = 0
      · rw [if_pos h0, if_pos h0]
        have e : flds ad (mR m k q) (lay j).2 j = flds ad m (lay j).2 j := by
          unfold flds
          congr 1
          funext i
          have e2 : rfi (mR m k q) (lay j).2 j i = rfi m (lay j).2 j i := by
            unfold rfi
            have n1 : ¬ ((lay j).2 = 11 ∧ (i = 3 ∨ i = 4)) := fun z => hc h0 z.1
            rw [if_neg n1, if_neg n1]
          unfold fval
          rw [e2]
          rfl
        rw [e]
      · rw [if_neg h0, if_neg h0]
        rfl
    · have e : lay j = (9, 0) := by
        show (layL[j]?).getD (9, 0) = (9, 0)
        rw [List.getElem?_eq_none (Nat.le_of_not_lt hl)]
        rfl
      unfold cont
      rw [e]
      rfl
/-- the addresses are apart -/
def adI (ca ad : Nat → Nat) : Prop := ∀ i j, (ca 10 ≤ i ∧ i < ca 9) → (ca 10 ≤ j ∧ j < ca 9) → ad i = ad j → i = j
theorem wl_D {ca : Nat → ClassId} {ad : Nat → Nat} {A : Nat → Prop} (h : adI ca ad) (hA : ∀ i, (ca 10 ≤ i ∧ i < ca 9) → A (ad i)) (m : Mem) : va_D A (wl ca ad m) := by
  have key : ∀ (i : Nat) (p : Nat × va_E), (wl ca ad m)[i]? = some p → (ca 10 ≤ ca 10 + i ∧ ca 10 + i < ca 9) ∧ p.1 = ad (ca 10 + i) := by
    intro i p hp
    have hl : i < ca 9 - ca 10 := by
      rcases Nat.lt_or_ge i (ca 9 - ca 10) with q | q
      · exact q
      · rw [List.getElem?_eq_none (by rw [wl_len]; exact q)] at hp
        cases hp
    rw [wl_at2 hl] at hp
    cases hp
    exact ⟨⟨Nat.le_add_right _ _, Nat.add_lt_of_lt_sub' hl⟩, rfl⟩
  refine ⟨fun i j p q hi hj hpq => ?_, fun k q hk => ?_⟩
  · obtain ⟨a1, a2⟩ := key i p hi
    obtain ⟨b1, b2⟩ := key j q hj
    exact Nat.add_left_cancel (h _ _ a1 b1 (by rw [← a2, ← b2]; exact hpq))
  · obtain ⟨a1, a2⟩ := key k q hk
    rw [a2]
    exact hA _ a1
theorem BIG_good : ∀ w ∈ BIG, (w.onTables && w.keeps) = true ∨ ∃ ty, w = .arrayClass ty := fun w h => good_of_word (List.mem_filter.mp h).2
theorem BIG_tbl : ∀ w ∈ BIG, w ∈ lw_tbl := fun w h => (List.mem_filter.mp h).1
theorem inBIG {w : Cond} (h : w ∈ lw_tbl) (g : goodWord w = true) : w ∈ BIG := List.mem_filter.mpr ⟨h, g⟩
theorem tb {w : Cond} (h : w ∈ tables_1) (g : goodWord w = true) : w ∈ BIG := inBIG (List.mem_append_right _ h) g
theorem tb1 {w : Cond} (h : w ∈ tables_1_1) (g : goodWord w = true) : w ∈ BIG := tb (List.mem_append_left _ h) g
theorem tb2 {w : Cond} (h : w ∈ tables_1_2) (g : goodWord w = true) : w ∈ BIG := tb (List.mem_append_right _ (List.mem_append_left _ h)) g
theorem tb3 {w : Cond} (h : w ∈ tables_1_3) (g : goodWord w = true) : w ∈ BIG := tb (List.mem_append_right _ (List.mem_append_right _ (List.mem_append_left _ h))) g
theorem tb4 {w : Cond} (h : w ∈ tables_1_4) (g : goodWord w = true) : w ∈ BIG := tb (List.mem_append_right _ (List.mem_append_right _ (List.mem_append_right _ (List.mem_append_left _ h)))) g
theorem tb5 {w : Cond} (h : w ∈ tables_1_5) (g : goodWord w = true) : w ∈ BIG := tb (List.mem_append_right _ (List.mem_append_right _ (List.mem_append_right _ (List.mem_append_right _ (List.mem_append_left _ h))))) g
theorem tb6 {w : Cond} (h : w ∈ tables_1_6) (g : goodWord w = true) : w ∈ BIG := tb (List.mem_append_right _ (List.mem_append_right _ (List.mem_append_right _ (List.mem_append_right _ (List.mem_append_right _ (List.mem_append_left _ h)))))) g
theorem tb7 {w : Cond} (h : w ∈ tables_1_7) (g : goodWord w = true) : w ∈ BIG := tb (List.mem_append_right _ (List.mem_append_right _ (List.mem_append_right _ (List.mem_append_right _ (List.mem_append_right _ (List.mem_append_right _ (List.mem_append_left _ h))))))) g
theorem tb8 {w : Cond} (h : w ∈ tables_1_8) (g : goodWord w = true) : w ∈ BIG := tb (List.mem_append_right _ (List.mem_append_right _ (List.mem_append_right _ (List.mem_append_right _ (List.mem_append_right _ (List.mem_append_right _ (List.mem_append_right _ h))))))) g
theorem tbp {y : MethodName} {n : Nat} (h : (y, n) ∈ lw_privs) (g : goodWord (.selects y.cls y y) = true) : Cond.selects y.cls y y ∈ BIG := inBIG (List.mem_append_left _ (List.mem_map.mpr ⟨(y, n), h, rfl⟩)) g

