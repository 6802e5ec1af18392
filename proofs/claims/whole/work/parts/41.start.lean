theorem insX0 : Cond.instantiable RX0 12 ∈ BIG := (tb2 (List.mem_of_getElem? (i := 44) rfl) rfl)
theorem insX1 : Cond.instantiable RX1 8 ∈ BIG := (tb2 (List.mem_of_getElem? (i := 157) rfl) rfl)
theorem insX2 : Cond.instantiable RX2 5 ∈ BIG := (tb2 (List.mem_of_getElem? (i := 190) rfl) rfl)
theorem insX3 : Cond.instantiable RX3 8 ∈ BIG := (tb1 (List.mem_of_getElem? (i := 184) rfl) rfl)
theorem insX4 : Cond.instantiable RX4 5 ∈ BIG := (tb2 (List.mem_of_getElem? (i := 216) rfl) rfl)
theorem insX5 : Cond.instantiable RX5 4 ∈ BIG := (tb2 (List.mem_of_getElem? (i := 124) rfl) rfl)
theorem insX6 : Cond.instantiable RX6 11 ∈ BIG := (tb1 (List.mem_of_getElem? (i := 157) rfl) rfl)
theorem insX7 : Cond.instantiable RX7 2 ∈ BIG := (tb2 (List.mem_of_getElem? (i := 143) rfl) rfl)
theorem insX8 : Cond.instantiable RX8 9 ∈ BIG := (tb1 (List.mem_of_getElem? (i := 35) rfl) rfl)
theorem insX9 : Cond.instantiable RX9 3 ∈ BIG := (tb1 (List.mem_of_getElem? (i := 163) rfl) rfl)
theorem insX10 : Cond.instantiable RX10 7 ∈ BIG := (tb1 (List.mem_of_getElem? (i := 41) rfl) rfl)
theorem insX11 : Cond.instantiable RX11 14 ∈ BIG := (tb1 (List.mem_of_getElem? (i := 27) rfl) rfl)
theorem insX12 : Cond.instantiable RX12 67 ∈ BIG := (tb6 (List.mem_of_getElem? (i := 19) rfl) rfl)
theorem ac_int : Cond.arrayClass .int ∈ BIG := (tb1 (List.mem_of_getElem? (i := 124) rfl) rfl)
theorem ac_boolean : Cond.arrayClass .boolean ∈ BIG := (tb1 (List.mem_of_getElem? (i := 125) rfl) rfl)
theorem ac_byte : Cond.arrayClass .byte ∈ BIG := (tb1 (List.mem_of_getElem? (i := 123) rfl) rfl)
theorem ac_long : Cond.arrayClass .long ∈ BIG := (tb1 (List.mem_of_getElem? (i := 218) rfl) rfl)
theorem nwL_8 : NW RL 8 11 [.null, .int 0, .null, .null, .null, .null, .null, .null, .int 0, .null, .null, .null, .null, .null] 14 := ⟨RX11, TX11, tyX11, rfl, inBX11, tyX11_ok, (tb1 (List.mem_of_getElem? (i := 26) rfl) rfl), insX11, (tb1 (List.mem_of_getElem? (i := 1) rfl) rfl), fun j hj => by
  match j, hj with
  | 0, _ => rfl
  | 1, _ => rfl
  | 2, _ => rfl
  | 3, _ => rfl
  | 4, _ => rfl
  | 5, _ => rfl
  | 6, _ => rfl
  | 7, _ => rfl
  | 8, _ => rfl
  | 9, _ => rfl
  | 10, _ => rfl
  | 11, _ => rfl
  | 12, _ => rfl
  | 13, _ => rfl
  | j + 14, hj => exact absurd hj (by omega)⟩
theorem nwL_18 : NW RL 18 12 [.int 0, .null, .int 0, .null, .null, .null, .null, .null, .null, .null, .null, .null, .null, .null, .null, .null, .null, .null, .null, .null, .null, .null, .null, .int 0, .int 0, .int 0, .int 0, .int 0, .int 0, .int 0, .int 0, .int 0, .int 0, .int 0, .int 0, .int 0, .null, .null, .int 0, .null, .null, .null, .null, .null, .null, .null, .null, .null, .null, .null, .int 0, .int 0, .int 0, .int 0, .null, .null, .int 0, .int 0, .int 0, .int 0, .null, .null, .null, .null, .null, .null, .null] 67 := ⟨RX12, TX12, tyX12, rfl, inBX12, tyX12_ok, (tb6 (List.mem_of_getElem? (i := 18) rfl) rfl), insX12, (tb1 (List.mem_of_getElem? (i := 17) rfl) rfl), fun j hj => by
  match j, hj with
  | 0, _ => rfl
  | 1, _ => rfl
  | 2, _ => rfl
  | 3, _ => rfl
  | 4, _ => rfl
  | 5, _ => rfl
  | 6, _ => rfl
  | 7, _ => rfl
  | 8, _ => rfl
  | 9, _ => rfl
  | 10, _ => rfl
  | 11, _ => rfl
  | 12, _ => rfl
  | 13, _ => rfl
  | 14, _ => rfl
  | 15, _ => rfl
  | 16, _ => rfl
  | 17, _ => rfl
  | 18, _ => rfl
  | 19, _ => rfl
  | 20, _ => rfl
  | 21, _ => rfl
  | 22, _ => rfl
  | 23, _ => rfl
  | 24, _ => rfl
  | 25, _ => rfl
  | 26, _ => rfl
  | 27, _ => rfl
  | 28, _ => rfl
  | 29, _ => rfl
  | 30, _ => rfl
  | 31, _ => rfl
  | 32, _ => rfl
  | 33, _ => rfl
  | 34, _ => rfl
  | 35, _ => rfl
  | 36, _ => rfl
  | 37, _ => rfl
  | 38, _ => rfl
  | 39, _ => rfl
  | 40, _ => rfl
  | 41, _ => rfl
  | 42, _ => rfl
  | 43, _ => rfl
  | 44, _ => rfl
  | 45, _ => rfl
  | 46, _ => rfl
  | 47, _ => rfl
  | 48, _ => rfl
  | 49, _ => rfl
  | 50, _ => rfl
  | 51, _ => rfl
  | 52, _ => rfl
  | 53, _ => rfl
  | 54, _ => rfl
  | 55, _ => rfl
  | 56, _ => rfl
  | 57, _ => rfl
  | 58, _ => rfl
  | 59, _ => rfl
  | 60, _ => rfl
  | 61, _ => rfl
  | 62, _ => rfl
  | 63, _ => rfl
  | 64, _ => rfl
  | 65, _ => rfl
  | 66, _ => rfl
  | j + 67, hj => exact absurd hj (by omega)⟩
theorem miL_17 : MI RL 17 yX11_init cwX11_init 0 := ⟨(tb1 (List.mem_of_getElem? (i := 28) rfl) rfl), (tb1 (List.mem_of_getElem? (i := 29) rfl) rfl), (tb1 (List.mem_of_getElem? (i := 1) rfl) rfl), cmX11_init, rfl, pdX11_init⟩
theorem miL_20 : MI RL 20 yX12_init cwX12_init 0 := ⟨(tb6 (List.mem_of_getElem? (i := 20) rfl) rfl), (tb6 (List.mem_of_getElem? (i := 21) rfl) rfl), (tb1 (List.mem_of_getElem? (i := 17) rfl) rfl), cmX12_init, rfl, pdX12_init⟩
theorem law_K {s : State} {args : Array Value} (hts : ∀ w ∈ BIG, w.before args s = true) : ∃ (D : va_G) (d0 d1 d2 d3 : ClassId), va_K D clsL [(d0, .int), (d1, .boolean), (d2, .byte), (d3, .long)] s := by
  obtain ⟨c0, i0, h0⟩ := u_known (C := RX0) (T := TX0) (N := 12) (n := 12) hts inBX0 (hts _ insX0)
  obtain ⟨c1, i1, h1⟩ := u_known (C := RX1) (T := TX1) (N := 8) (n := 8) hts inBX1 (hts _ insX1)
  obtain ⟨c2, i2, h2⟩ := u_known (C := RX2) (T := TX2) (N := 5) (n := 5) hts inBX2 (hts _ insX2)
  obtain ⟨c3, i3, h3⟩ := u_known (C := RX3) (T := TX3) (N := 8) (n := 8) hts inBX3 (hts _ insX3)
  obtain ⟨c4, i4, h4⟩ := u_known (C := RX4) (T := TX4) (N := 5) (n := 5) hts inBX4 (hts _ insX4)
  obtain ⟨c5, i5, h5⟩ := u_known (C := RX5) (T := TX5) (N := 4) (n := 4) hts inBX5 (hts _ insX5)
  obtain ⟨c6, i6, h6⟩ := u_known (C := RX6) (T := TX6) (N := 11) (n := 11) hts inBX6 (hts _ insX6)
  obtain ⟨c7, i7, h7⟩ := u_known (C := RX7) (T := TX7) (N := 2) (n := 2) hts inBX7 (hts _ insX7)
  obtain ⟨c8, i8, h8⟩ := u_known (C := RX8) (T := TX8) (N := 9) (n := 9) hts inBX8 (hts _ insX8)
  obtain ⟨c9, i9, h9⟩ := u_known (C := RX9) (T := TX9) (N := 3) (n := 3) hts inBX9 (hts _ insX9)
  obtain ⟨c10, i10, h10⟩ := u_known (C := RX10) (T := TX10) (N := 7) (n := 7) hts inBX10 (hts _ insX10)
  obtain ⟨c11, i11, h11⟩ := u_known (C := RX11) (T := TX11) (N := 14) (n := 14) hts inBX11 (hts _ insX11)
  obtain ⟨c12, i12, h12⟩ := u_known (C := RX12) (T := TX12) (N := 67) (n := 67) hts inBX12 (hts _ insX12)
  obtain ⟨d0, k0, p0, a0, a1, a2⟩ := Cond.arrayClass_spec (hts _ ac_int)
  obtain ⟨d1, k1, p1, b0, b1, b2⟩ := Cond.arrayClass_spec (hts _ ac_boolean)
  obtain ⟨d2, k2, p2, e0, e1, e2⟩ := Cond.arrayClass_spec (hts _ ac_byte)
  obtain ⟨d3, k3, p3, f0, f1, f2⟩ := Cond.arrayClass_spec (hts _ ac_long)
  refine ⟨(fun k => [c0, c1, c2, c3, c4, c5, c6, c7, c8, c9, c10, c11, c12].getD k 0, fun k => [i0, i1, i2, i3, i4, i5, i6, i7, i8, i9, i10, i11, i12].getD k (fun _ => 0)), d0, d1, d2, d3, fun k q hq => ?_, fun k q hq => ?_⟩
  · match k, hq with
    | 0, hq => cases hq; exact h0
    | 1, hq => cases hq; exact h1
    | 2, hq => cases hq; exact h2
    | 3, hq => cases hq; exact h3
    | 4, hq => cases hq; exact h4
    | 5, hq => cases hq; exact h5
    | 6, hq => cases hq; exact h6
    | 7, hq => cases hq; exact h7
    | 8, hq => cases hq; exact h8
    | 9, hq => cases hq; exact h9
    | 10, hq => cases hq; exact h10
    | 11, hq => cases hq; exact h11
    | 12, hq => cases hq; exact h12
    | k + 13, hq => cases hq
  · match k, hq with
    | 0, hq => cases hq; exact ⟨fun n z => ⟨fun k h => (by cases h), k0, a1, p0, a2⟩, a0⟩
    | 1, hq => cases hq; exact ⟨fun n z => ⟨fun k h => (by cases h), k1, b1, p1, b2⟩, b0⟩
    | 2, hq => cases hq; exact ⟨fun n z => ⟨fun k h => (by cases h), k2, e1, p2, e2⟩, e0⟩
    | 3, hq => cases hq; exact ⟨fun n z => ⟨fun k h => (by cases h), k3, f1, p3, f2⟩, f0⟩
    | k + 4, hq => cases hq
abbrev gv1 : Cond := Jvm.Cond.and given_1 narrow_1
abbrev tmS (i : Nat) : Term := if i = 0 then .string "BathOrders$Tokens" 17 else .string "BathOrdersModel" 197
theorem elTk : ∀ j, j < 106 → (flatC gv1)[43 + j]? = some (Cond.eq (.elem (.field (.string "BathOrders$Tokens" 17) "java/lang/String" "value" "[B") (.int (Int32.ofNat j))) (.int (bytT.getD j 0))) := by decide +kernel
theorem elT (j : Nat) (h : j < 106) : Cond.eq (.elem (.field (.string "BathOrders$Tokens" 17) "java/lang/String" "value" "[B") (.int (Int32.ofNat j))) (.int (bytT.getD j 0)) ∈ flatC gv1 := List.mem_of_getElem? (elTk j h)
theorem elMk : ∀ j, j < 107 → (flatC gv1)[187 + j]? = some (Cond.eq (.elem (.field (.string "BathOrdersModel" 197) "java/lang/String" "value" "[B") (.int (Int32.ofNat j))) (.int (bytM.getD j 0))) := by decide +kernel
theorem elM (j : Nat) (h : j < 107) : Cond.eq (.elem (.field (.string "BathOrdersModel" 197) "java/lang/String" "value" "[B") (.int (Int32.ofNat j))) (.int (bytM.getD j 0)) ∈ flatC gv1 := List.mem_of_getElem? (elMk j h)
theorem law_SK {s : State} {args : Array Value} (hts : ∀ w ∈ lw_tbl, w.before args s = true) (hgv : gv1.before args s = true) (c0 c1 c2 c3 : Nat) : ∃ ca : Nat → Nat, ca 0 = c0 ∧ ca 1 = c1 ∧ ca 2 = c2 ∧ ca 3 = c3 ∧ SK ca (fun z : Nat => s.heap.size ≤ z) s s.heap := by
  have hs := flat_of_before _ hgv
  have hA : ∀ a : Nat, a < s.heap.size → ¬ (fun z : Nat => s.heap.size ≤ z) a := fun a h => Nat.not_le.mpr h
  have two : ∀ {P : Nat → Prop}, P 0 → P 1 → ∀ i, i < 2 → P i := fun h0 h1 i hi => by
    rcases (show i = 0 ∨ i = 1 by omega) with rfl | rfl
    · exact h0
    · exact h1
  obtain ⟨adK, adV, hS, hE⟩ := vk_Sof (args := args) (s := s) (N := 2) (tm := tmS) (len := [106, 107]) (byt := [bytT, bytM]) (A := fun z : Nat => s.heap.size ≤ z) (two (by decide) (by decide))
    (two (hs (.exactly (.string "BathOrders$Tokens" 17) "java/lang/String") (by decide +kernel)) (hs (.exactly (.string "BathOrdersModel" 197) "java/lang/String") (by decide +kernel)))
    (two (hs (.eq (.field (.string "BathOrders$Tokens" 17) "java/lang/String" "coder" "B") (.int 0)) (by decide +kernel)) (hs (.eq (.field (.string "BathOrdersModel" 197) "java/lang/String" "coder" "B") (.int 0)) (by decide +kernel)))
    (two (hs (.arrayOf (.field (.string "BathOrders$Tokens" 17) "java/lang/String" "value" "[B") .byte) (by decide +kernel)) (hs (.arrayOf (.field (.string "BathOrdersModel" 197) "java/lang/String" "value" "[B") .byte) (by decide +kernel)))
    (two (hs (.eq (.length (.field (.string "BathOrders$Tokens" 17) "java/lang/String" "value" "[B")) (.int 106)) (by decide +kernel)) (hs (.eq (.length (.field (.string "BathOrdersModel" 197) "java/lang/String" "value" "[B")) (.int 107)) (by decide +kernel)))
    (two (fun j hj => hs _ (elT j hj)) (fun j hj => hs _ (elM j hj)))
    (fun i j hi hj hij => by
      rcases (show i = 0 ∨ i = 1 by omega) with rfl | rfl <;> rcases (show j = 0 ∨ j = 1 by omega) with rfl | rfl
      · exact absurd rfl hij
      · exact Or.inl (hs (.not (.eq (.string "BathOrders$Tokens" 17) (.string "BathOrdersModel" 197))) (by decide +kernel))
      · exact Or.inr (hs (.not (.eq (.string "BathOrders$Tokens" 17) (.string "BathOrdersModel" 197))) (by decide +kernel))
      · exact absurd rfl hij) hA
  refine ⟨fun k => [c0, c1, c2, c3, adK 0, adK 1, adV 0, adV 1].getD k 0, rfl, rfl, rfl, rfl, ⟨two ?_ ?_, fun i j hi hj e => ?_⟩, ?_, ?_, ?_, ?_⟩
  · exact hS.1 0 (by decide)
  · exact hS.1 1 (by decide)
  · refine hS.2 i j hi hj ?_
    rcases (show i = 0 ∨ i = 1 by omega) with rfl | rfl <;> rcases (show j = 0 ∨ j = 1 by omega) with rfl | rfl <;> exact e
  · exact va_Zof (hts _ (List.mem_append_right _ (List.mem_append_left _ (List.mem_of_getElem? (i := 56) rfl)))) (hts _ (List.mem_append_right _ (List.mem_append_left _ (List.mem_of_getElem? (i := 4) rfl)))) (va_eqt (hs (.eq (.static "java/lang/String" "COMPACT_STRINGS" "Z") (.int 1)) (by decide +kernel))) hA
  · exact va_Zqof (hts _ (List.mem_append_right _ (List.mem_append_left _ (List.mem_of_getElem? (i := 72) rfl)))) (hts _ (List.mem_append_right _ (List.mem_append_left _ (List.mem_of_getElem? (i := 6) rfl)))) (hs (.isRef (.static "jdk/internal/util/Preconditions" "SIOOBE_FORMATTER" "Ljava/util/function/BiFunction;")) (by decide +kernel)) hA
  · exact vk_R.of (hts _ (List.mem_append_right _ (List.mem_append_left _ (List.mem_of_getElem? (i := 46) rfl)))) (hE 0 (by decide))
  · exact vk_R.of (hts _ (List.mem_append_right _ (List.mem_append_right _ (List.mem_append_right _ (List.mem_append_right _ (List.mem_append_right _ (List.mem_append_right _ (List.mem_append_right _ (List.mem_append_left _ (List.mem_of_getElem? (i := 25) rfl)))))))))) (hE 1 (by decide))
theorem strEx {s : State} {args : Array Value} {own : String} {k : Nat} (h : (Cond.exactly (.string own k) "java/lang/String").before args s = true) : ∃ a, (Term.string own k).eval args s none [] s = some (.ref a) := by
  obtain ⟨a, c, cA, kA, q1, -⟩ := Cond.exactly_spec (args := args) (first := s) (o := none) (s := s) (idx := []) (t := .string own k) (cls := "java/lang/String") h
  exact ⟨a, q1⟩
theorem law_PX {s : State} {args : Array Value} (hts : ∀ w ∈ lw_tbl, w.before args s = true) (hgv : gv1.before args s = true) : PX (fun z : Nat => s.heap.size ≤ z) s s.heap := by
  have hs := flat_of_before _ hgv
  have hA : ∀ a : Nat, a < s.heap.size → ¬ (fun z : Nat => s.heap.size ≤ z) a := fun a h => Nat.not_le.mpr h
  obtain ⟨a1, e1⟩ := strEx (hs (.exactly (.string "BathOrders" 134) "java/lang/String") (by decide +kernel))
  obtain ⟨a2, e2⟩ := strEx (hs (.exactly (.string "BathOrders" 151) "java/lang/String") (by decide +kernel))
  refine ⟨⟨a1, vk_R.of (hts _ (List.mem_append_right _ (List.mem_append_right _ (List.mem_append_right _ (List.mem_append_right _ (List.mem_append_right _ (List.mem_append_left _ (List.mem_of_getElem? (i := 216) rfl)))))))) e1⟩, ⟨a2, vk_R.of (hts _ (List.mem_append_right _ (List.mem_append_right _ (List.mem_append_right _ (List.mem_append_right _ (List.mem_append_right _ (List.mem_append_right _ (List.mem_append_left _ (List.mem_of_getElem? (i := 11) rfl))))))))) e2⟩, vx_Zqof (hts _ (List.mem_append_right _ (List.mem_append_right _ (List.mem_append_right _ (List.mem_append_right _ (List.mem_append_right _ (List.mem_append_left _ (List.mem_of_getElem? (i := 203) rfl)))))))) (hts _ (List.mem_append_right _ (List.mem_append_left _ (List.mem_of_getElem? (i := 19) rfl)))) (hs (.isRef (.static Bundle.tN "UNASSIGNED_STACK" Bundle.steD)) (by decide +kernel)) hA, vx_Zqof (hts _ (List.mem_append_right _ (List.mem_append_right _ (List.mem_append_right _ (List.mem_append_right _ (List.mem_append_right _ (List.mem_append_left _ (List.mem_of_getElem? (i := 205) rfl)))))))) (hts _ (List.mem_append_right _ (List.mem_append_left _ (List.mem_of_getElem? (i := 19) rfl)))) (hs (.isRef (.static Bundle.tN "SUPPRESSED_SENTINEL" Bundle.listD)) (by decide +kernel)) hA, va_tabs rfl rfl (hts _ (List.mem_append_right _ (List.mem_append_right _ (List.mem_append_right _ (List.mem_append_right _ (List.mem_append_right _ (List.mem_append_left _ (List.mem_of_getElem? (i := 178) rfl)))))))), va_tabs rfl rfl (hts _ (List.mem_append_right _ (List.mem_append_right _ (List.mem_append_right _ (List.mem_append_right _ (List.mem_append_right _ (List.mem_append_right _ (List.mem_append_left _ (List.mem_of_getElem? (i := 4) rfl))))))))), va_Nc.of (hs (.not (.castable "java/util/NoSuchElementException" "java/lang/IndexOutOfBoundsException")) (by decide +kernel)), fun w hw => ?_⟩
  rcases List.mem_cons.mp hw with rfl | hw
  · exact va_tabs rfl rfl (hts _ (List.mem_append_right _ (List.mem_append_right _ (List.mem_append_right _ (List.mem_append_right _ (List.mem_append_right _ (List.mem_append_left _ (List.mem_of_getElem? (i := 180) rfl))))))))
  · rcases List.mem_cons.mp hw with rfl | hw
    · exact va_tabs rfl rfl (hts _ (List.mem_append_right _ (List.mem_append_right _ (List.mem_append_right _ (List.mem_append_right _ (List.mem_append_right _ (List.mem_append_left _ (List.mem_of_getElem? (i := 182) rfl))))))))
    · cases List.mem_singleton.mp hw
      exact va_tabs rfl rfl (hts _ (List.mem_append_right _ (List.mem_append_right _ (List.mem_append_right _ (List.mem_append_right _ (List.mem_append_right _ (List.mem_append_left _ (List.mem_of_getElem? (i := 184) rfl))))))))
theorem rng_map {α : Type} {n : Nat} (a b : List α) (h : a.length = n) : (List.range n).map (fun i => (a ++ b)[i]?) = a.map some := by
  subst h
  apply List.ext_getElem?
  intro i
  rw [List.getElem?_map, List.getElem?_map]
  rcases Nat.lt_or_ge i a.length with z | z
  · rw [List.getElem?_range z, List.getElem?_eq_getElem z]
    show some ((a ++ b)[i]?) = some (some a[i])
    rw [List.getElem?_append_left z, List.getElem?_eq_getElem z]
  · rw [List.getElem?_eq_none (by rw [List.length_range]; exact z), List.getElem?_eq_none z]
    rfl
theorem nd99 : va_nd (List.range 99) = true := by decide +kernel
theorem va_D_app {A : Nat → Prop} {a b : va_W} (h : va_D A (a ++ b)) : va_D A a ∧ va_D A b ∧ ∀ (i j : Nat) (p q : Nat × va_E), a[i]? = some p → b[j]? = some q → p.1 ≠ q.1 := by
  have la : ∀ (i : Nat) (p : Nat × va_E), a[i]? = some p → (a ++ b)[i]? = some p := fun i p hp => by
    rw [List.getElem?_append_left ((List.getElem?_eq_some_iff.mp hp).1)]
    exact hp
  have lb : ∀ (j : Nat) (p : Nat × va_E), b[j]? = some p → (a ++ b)[a.length + j]? = some p := fun j p hp => by
    rw [List.getElem?_append_right (Nat.le_add_right _ _), Nat.add_sub_cancel_left]
    exact hp
  refine ⟨⟨fun i j p q hi hj e => h.1 i j p q (la i p hi) (la j q hj) e, fun k q hk => h.2 k q (la k q hk)⟩, ⟨fun i j p q hi hj e => Nat.add_left_cancel (h.1 _ _ p q (lb i p hi) (lb j q hj) e), fun k q hk => h.2 _ q (lb k q hk)⟩, fun i j p q hi hj e => ?_⟩
  have h1 := h.1 _ _ p q (la i p hi) (lb j q hj) e
  have h2 := (List.getElem?_eq_some_iff.mp hi).1
  omega
set_option maxHeartbeats 4000000 in
set_option maxRecDepth 100000 in
/-- THE LAW from its entry, given that the two models stay alike -/
theorem start_of {p : Program} {e : Env} {s : State} {m : MethodId} {below : List Frame} {meth : Method} {c : Code} (l : Launch) (hflags : l.flags = flags0) {b L : Nat} {xs : Nat → Int32} (hL : L ≤ 3072) (C0 : lw_At p s m meth c b L xs) {Inv : Mem → Mem → Prop} {N : Nat} (hops : OPS Inv N) (mC1 mR1 : Mem) (hmC : fX0_begin N 43 7 mC0 = some mC1) (hmR : fX12_begins N mR0 = some mR1) (hI0 : Inv mC1 mR1) : W p l e room_1 s m #[Value.ref b] below meth c s.heap [] 0 0 (lw_Z below #[Value.ref b] s) (entryFrame m ([Value.ref b] : List Value).toArray 7) := by
  obtain ⟨hx, hb, hr, hml, hown, hts0, hX, hbl, hlocks, hgv⟩ := id C0
  have hts : ∀ w ∈ BIG, w.before #[Value.ref b] s = true := fun w hw => hts0 w (BIG_tbl w hw)
  have htr : l.stackTraces = false := by
    unfold Launch.stackTraces
    rw [hflags]
    decide +kernel
  obtain ⟨D, d0, d1, d2, d3, hK0⟩ := law_K hts
  obtain ⟨ca, e0, e1, e2, e3, hsk⟩ := law_SK hts0 hgv d0 d1 d2 d3
  have hpx := law_PX hts0 hgv
  have hK : va_K D clsL (tyA ca) s := by
    show va_K D clsL [(ca 0, .int), (ca 1, .boolean), (ca 2, .byte), (ca 3, .long)] s
    rw [e0, e1, e2, e3]
    exact hK0
  have X : CXc p s m #[Value.ref b] meth c code 7 RL D ca (fun z : Nat => s.heap.size ≤ z) := ⟨hx, hb, hml, hown, hts, hK, fun _ h => h, hlocks, hsk⟩
  have hS : va_S (fun z : Nat => s.heap.size ≤ z) s.heap s.heap [] := va_S.rf
  have hP : va_P D clsL [] s.heap := fun k q h => by simp at h
  have hD : va_D (fun z : Nat => s.heap.size ≤ z) [] := ⟨fun i j p q h => by simp at h, fun k q h => by simp at h⟩
  have hl := lv_entry ([.ref b]) (n := 7) (Nat.le_of_ble_eq_true rfl)
  rw [lg_entry_eq]
  generalize (lg_sl ([.ref b]) ++ List.replicate (7 - (lg_sl ([.ref b])).length) Slot.unset).toArray = ls at hl ⊢
  have hl : lv_has ls 7 [(0, .ref b)] := hl
  refine xNew X hP hD hS nwL_8 (Nat.le_of_ble_eq_true rfl) (Nat.le_of_ble_eq_true rfl) dL_law_0 (fun q0 H hP hD hS => ?_)
  have hP : va_P D clsL [(q0, .inr (11, [.null, .int 0, .null, .null, .null, .null, .null, .null, .int 0, .null, .null, .null, .null, .null]))] H := hP
  have hD : va_D (fun z : Nat => s.heap.size ≤ z) [(q0, .inr (11, [.null, .int 0, .null, .null, .null, .null, .null, .null, .int 0, .null, .null, .null, .null, .null]))] := hD
  refine W.widen (k := 1) (n := 14) (Nat.le_of_ble_eq_true rfl) (Nat.le_of_ble_eq_true rfl) ?_
  refine lv_dup hx hb dL_law_3 rfl ?_
  refine callC (wc := [(q0, .inr (11, [.null, .int 0, .null, .null, .null, .null, .null, .null, .int 0, .null, .null, .null, .null, .null]))]) (wr := []) X hP hD hS (ccX11_init N mC1 hmC q0) miL_17 [0] [] rfl rfl (by decide) (by decide) (by decide) ⟨rfl, rfl⟩ ⟨Nat.le_of_ble_eq_true rfl, Nat.le_of_ble_eq_true rfl⟩ rfl hl.1 rfl (Nat.le_of_ble_eq_true rfl) dL_law_4 ⟨Nat.le_of_ble_eq_true rfl, Nat.le_of_ble_eq_true rfl⟩ (fun a1 H locs ea1 hP hD hS => ?_)
  have hP : va_P D clsL (wl (cca ca) (fun i => a1 (i - 0)) mC1) H := hP
  have hD : va_D (fun z : Nat => s.heap.size ≤ z) (wl (cca ca) (fun i => a1 (i - 0)) mC1) := hD
  refine W.widen (k := 99) (n := 2974) (Nat.le_of_ble_eq_true rfl) (Nat.le_of_ble_eq_true rfl) ?_
  refine lv_astore_n (lv' := [(1, .ref q0), (0, .ref b)]) hx hb dL_law_7 rfl hl (by decide) rfl (fun ls hl => ?_)
  obtain ⟨adC, hadC⟩ : ∃ z : Nat → Nat, z = fun i => a1 (i - 0) := ⟨_, rfl⟩
  rw [← hadC] at hP hD
  have hq0 : q0 = adC 0 := by rw [hadC]; exact ea1.symm
  refine xNew X hP hD hS nwL_18 (Nat.le_of_ble_eq_true rfl) (Nat.le_of_ble_eq_true rfl) dL_law_8 (fun q1 H hP hD hS => ?_)
  refine W.widen (k := 100) (n := 3041) (Nat.le_of_ble_eq_true rfl) (Nat.le_of_ble_eq_true rfl) ?_
  refine lv_dup hx hb dL_law_11 rfl ?_
  have hlen : (wl (cca ca) adC mC1).length = 99 := wl_len
  refine callC (wc := [(q1, .inr (12, [.int 0, .null, .int 0, .null, .null, .null, .null, .null, .null, .null, .null, .null, .null, .null, .null, .null, .null, .null, .null, .null, .null, .null, .null, .int 0, .int 0, .int 0, .int 0, .int 0, .int 0, .int 0, .int 0, .int 0, .int 0, .int 0, .int 0, .int 0, .null, .null, .int 0, .null, .null, .null, .null, .null, .null, .null, .null, .null, .null, .null, .int 0, .int 0, .int 0, .int 0, .null, .null, .int 0, .int 0, .int 0, .int 0, .null, .null, .null, .null, .null, .null, .null]))]) (wr := wl (cca ca) adC mC1) X hP hD hS (ccX12_init N mR1 hmR q1) miL_20 [99] (List.range 99) (by rw [← hlen]; exact congrArg (fun z => [z]) (app_last _ _)) (rng_map _ _ hlen) (by decide) nd99 (by decide) ⟨rfl, rfl⟩ ⟨Nat.le_of_ble_eq_true rfl, Nat.le_of_ble_eq_true rfl⟩ rfl hl.1 rfl (Nat.le_of_ble_eq_true rfl) dL_law_12 ⟨Nat.le_of_ble_eq_true rfl, Nat.le_of_ble_eq_true rfl⟩ (fun a2 H locs ea2 hP hD hS => ?_)
  refine W.widen (k := 143) (n := 5738) (Nat.le_of_ble_eq_true rfl) (Nat.le_of_ble_eq_true rfl) ?_
  refine lv_astore_n (lv' := [(2, .ref q1), (1, .ref q0), (0, .ref b)]) hx hb dL_law_15 rfl hl (by decide) rfl (fun ls hl => ?_)
  obtain ⟨adR, hadR⟩ : ∃ z : Nat → Nat, z = fun i => a2 (i - 99) := ⟨_, rfl⟩
  have hP : va_P D clsL (wl (cca ca) adC mC1 ++ wl (rca ca) adR mR1) H := by rw [hadR]; exact hP
  have hD : va_D (fun z : Nat => s.heap.size ≤ z) (wl (cca ca) adC mC1 ++ wl (rca ca) adR mR1) := by rw [hadR]; exact hD
  have hq1 : q1 = adR 99 := by rw [hadR]; exact ea2.symm
  refine lv_iconst (v := 1) hx hb dL_law_16 (by decide) ?_
  refine xNewL (N' := 1) X hP hD hS (by decide) (by decide) (Nat.le_of_ble_eq_true rfl) (Nat.le_of_ble_eq_true rfl) (Nat.le_of_ble_eq_true rfl) dL_law_17 (fun q H hP hD hS => ?_)
  refine W.widen (k := 144 + 0) (n := 5739 + 0) (Nat.le_of_ble_eq_true rfl) (Nat.le_of_ble_eq_true rfl) ?_
  refine lv_astore_n (lv' := [(3, .ref q), (2, .ref q1), (1, .ref q0), (0, .ref b)]) hx hb dL_law_19 rfl hl (by decide) rfl (fun ls hl => ?_)
  refine lv_iconst (v := 0) hx hb dL_law_20 (by decide) ?_
  refine lv_istore (lv' := [(4, .int 0), (3, .ref q), (2, .ref q1), (1, .ref q0), (0, .ref b)]) hx hb dL_law_21 hl (by decide) rfl (fun ls hl => ?_)
  obtain ⟨hP12, hPo⟩ := va_P_split hP
  obtain ⟨hPC, hPR⟩ := va_P_split hP12
  obtain ⟨hD12, hDo, hx12⟩ := va_D_app hD
  obtain ⟨hDC, hDR, hxCR⟩ := va_D_app hD12
  have hJ : DJ ca adC adR q := by
    refine ⟨fun i j hi hj => hxCR _ _ _ _ (wl_at hi) (wl_at hj), fun i hi => ?_, fun j hj => ?_⟩
    · refine hx12 (i - (cca ca) 10) 0 (adC i, cont (cca ca) adC mC1 i) _ ?_ rfl
      rw [List.getElem?_append_left ((List.getElem?_eq_some_iff.mp (wl_at (m := mC1) hi)).1)]
      exact wl_at hi
    · refine hx12 ((wl (cca ca) adC mC1).length + (j - (rca ca) 10)) 0 (adR j, cont (rca ca) adR mR1 j) _ ?_ rfl
      rw [List.getElem?_append_right (Nat.le_add_right _ _), Nat.add_sub_cancel_left]
      exact wl_at hj
  have XC := toX (cb := cca ca) X (cca_e ca) hDC
  have XR := toX (cb := rca ca) X (rca_e ca) hDR
  rw [hq0, hq1] at hl
  exact law_loop hL XC XR hX hbl hJ htr (hDo.2 0 _ rfl) hpx hr hops (L + 1) 0 (Nat.zero_le L) (by omega) mC1 mR1 _ H _ ls hI0 ⟨hPC, hS⟩ hPR hPo (lv_sub hl [4, 3, 2, 1, 0] rfl)

