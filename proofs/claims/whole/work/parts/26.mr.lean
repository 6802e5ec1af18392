abbrev rmX12_roomOf : Room := { frames := 1, cells := 0, slots := 0, locals := 23 }
def fX12_roomOf_2 (N : Nat) : Nat → Int32 → Int32 → Int32 → Mem → Option Int32
  | 0, _, _, _, _ => none
  | n + 1, x1, x2, x3, m => if x1 < 0 ∨ 138 ≤ x1.toNatClampNeg then none else (if (999 : Int32) < (((m.1 126 x1.toNatClampNeg) + x3) + (1 : Int32)) then (some x3) else (if x1 < 0 ∨ 138 ≤ x1.toNatClampNeg then none else (if x1 < 0 ∨ 138 ≤ x1.toNatClampNeg then none else ((fX12_mixed (m.1 126 x1.toNatClampNeg) (m.1 127 x1.toNatClampNeg) (x3 + (1 : Int32)) (990 : Int32) m).bind (fun q5 => if ((10 : Int32) * x2) < q5 then (some x3) else (fX12_roomOf_2 N n x1 x2 (x3 + (1 : Int32)) m))))))
set_option maxHeartbeats 4000000 in
set_option maxRecDepth 100000 in
theorem tX12_roomOf_2 (N : Nat) {l : Launch} {D : va_G} {ca : Nat → ClassId} {ad : Nat → Nat} {p : Program} {e : Env} {s : State} {mm : MethodId} {args : Array Value} {below : List Frame} {meth : Method} {c : Code}  (hn : HNr ca) (X : CX p s mm args meth c cX12_roomOf 4 RX12 D ca ad (WA ca ad s.heap.size)) (hr : meth.sig.returnType = (some .int)) (fin : Int32) (m0 : Mem)  : ∀ (n : Nat) (x1 : Int32) (x2 : Int32) (x3 : Int32) (m : Mem) (H : Heap) (locs : List Loc) (ls : Array Slot), IW D ca ad (WA ca ad s.heap.size) s m H locs → lv_has ls 4 [(0, .ref (ad 99)), (1, .int x1), (2, .int x2), (3, .int x3)] → fX12_roomOf_2 N n x1 x2 x3 m = some fin → m = m0 → W p l e rmX12_roomOf s mm args below meth c H locs 0 0 (MQ below (QI D ca ad s.heap.size fin m0) args s 0 0 (WA ca ad s.heap.size)) (F0 mm 2 ls []) := by
  have hx := X.1
  have hb := X.2.1
  intro n
  induction n with
  | zero => intro x1 x2 x3 m H locs ls hI hl hm hpm
            exact absurd hm (by intro q; cases q)
  | succ n ih =>
    intro x1 x2 x3 m H locs ls hI hl hm hpm
    have hm : (if x1 < 0 ∨ 138 ≤ x1.toNatClampNeg then none else (if (999 : Int32) < (((m.1 126 x1.toNatClampNeg) + x3) + (1 : Int32)) then (some x3) else (if x1 < 0 ∨ 138 ≤ x1.toNatClampNeg then none else (if x1 < 0 ∨ 138 ≤ x1.toNatClampNeg then none else ((fX12_mixed (m.1 126 x1.toNatClampNeg) (m.1 127 x1.toNatClampNeg) (x3 + (1 : Int32)) (990 : Int32) m).bind (fun q5 => if ((10 : Int32) * x2) < q5 then (some x3) else (fX12_roomOf_2 N n x1 x2 (x3 + (1 : Int32)) m))))))) = some fin := hm
    refine lv_aload_n hx hb dX12_roomOf_2 rfl (lv_at hl 0 rfl) ?_
    refine gR X hI fdX12_93 (la_99 hn) rf12_42 dX12_roomOf_3 ?_
    refine lv_iload_n hx hb dX12_roomOf_6 rfl (lv_at hl 1 rfl) ?_
    obtain ⟨g1, hm⟩ := g_no hm
    refine aI X hI (la_126 hn) g1 dX12_roomOf_7 ?_
    refine lv_iload_n hx hb dX12_roomOf_8 rfl (lv_at hl 3 rfl) ?_
    refine lv_iadd hx hb dX12_roomOf_9 ?_
    refine lv_iconst (v := (1 : Int32)) hx hb dX12_roomOf_10 (by decide) ?_
    refine lv_iadd hx hb dX12_roomOf_11 ?_
    refine lv_sipush (v := (999 : Int32)) hx hb dX12_roomOf_12 (by decide) ?_
    refine lv_icmp_gt (tgt := 52) hx hb dX12_roomOf_15 (by decide) (fun c2 => ?_) (fun c2 => ?_)
    · have hm := g_t c2 hm
      refine lv_iload_n hx hb dX12_roomOf_52 rfl (lv_at hl 3 rfl) ?_
      exact rI X hI hr (g_1 hm) hpm dX12_roomOf_53
    · have hm := g_f c2 hm
      refine lv_aload_n hx hb dX12_roomOf_18 rfl (lv_at hl 0 rfl) ?_
      refine gR X hI fdX12_93 (la_99 hn) rf12_42 dX12_roomOf_19 ?_
      refine lv_iload_n hx hb dX12_roomOf_22 rfl (lv_at hl 1 rfl) ?_
      obtain ⟨g3, hm⟩ := g_no hm
      refine aI X hI (la_126 hn) g3 dX12_roomOf_23 ?_
      refine lv_aload_n hx hb dX12_roomOf_24 rfl (lv_at hl 0 rfl) ?_
      refine gR X hI fdX12_96 (la_99 hn) rf12_43 dX12_roomOf_25 ?_
      refine lv_iload_n hx hb dX12_roomOf_28 rfl (lv_at hl 1 rfl) ?_
      obtain ⟨g4, hm⟩ := g_no hm
      refine aI X hI (la_127 hn) g4 dX12_roomOf_29 ?_
      refine lv_iload_n hx hb dX12_roomOf_30 rfl (lv_at hl 3 rfl) ?_
      refine lv_iconst (v := (1 : Int32)) hx hb dX12_roomOf_31 (by decide) ?_
      refine lv_iadd hx hb dX12_roomOf_32 ?_
      refine lv_sipush (v := (990 : Int32)) hx hb dX12_roomOf_33 (by decide) ?_
      obtain ⟨q5, h6, hm⟩ := g_b hm
      refine backI X hI (runS X hI (ctX12_mixed (m.1 126 x1.toNatClampNeg) (m.1 127 x1.toNatClampNeg) (x3 + (1 : Int32)) (990 : Int32)  hn _ _ h6 _) msX12_360 ⟨rfl, rfl⟩ ⟨Nat.le_of_ble_eq_true rfl, Nat.le_of_ble_eq_true rfl⟩ rfl hl.1 rfl (Nat.le_of_ble_eq_true rfl) dX12_roomOf_36) (fun H locs hI => ?_)
      refine lv_bipush (v := (10 : Int32)) hx hb dX12_roomOf_39 (by decide) ?_
      refine lv_iload_n hx hb dX12_roomOf_41 rfl (lv_at hl 2 rfl) ?_
      refine lv_imul hx hb dX12_roomOf_42 ?_
      refine lv_icmp_gt (tgt := 52) hx hb dX12_roomOf_43 (by decide) (fun c7 => ?_) (fun c7 => ?_)
      · have hm := g_t c7 hm
        refine lv_iload_n hx hb dX12_roomOf_52 rfl (lv_at hl 3 rfl) ?_
        exact rI X hI hr (g_1 hm) hpm dX12_roomOf_53
      · have hm := g_f c7 hm
        refine lv_iinc (v := (x3 + (1 : Int32))) (lv' := [(3, .int (x3 + (1 : Int32))), (0, .ref (ad 99)), (1, .int x1), (2, .int x2)]) hx hb dX12_roomOf_46 hl (k := 3) rfl rfl (by decide) rfl (fun ls hl => ?_)
        refine lv_goto (tgt := 2) hx hb dX12_roomOf_49 (by decide) ?_
        exact ih x1 x2 (x3 + (1 : Int32)) m H locs ls hI (lv_sub hl [1, 2, 3, 0] rfl) hm hpm
def fX12_roomOf (N : Nat) (x1 : Int32) (x2 : Int32) (m : Mem) : Option Int32 := fX12_roomOf_2 N N x1 x2 (0 : Int32) m
set_option maxHeartbeats 4000000 in
set_option maxRecDepth 100000 in
theorem ctX12_roomOf {l : Launch} {D : va_G} {ca : Nat → ClassId} {ad : Nat → Nat} (N : Nat) (x1 : Int32) (x2 : Int32)  (hn : HNr ca) (m : Mem) (fin : Int32) (hm : fX12_roomOf N x1 x2 m = some fin) : CI l D ca ad yX12_roomOf cwX12_roomOf rmX12_roomOf [.ref (ad 99), .int x1, .int x2] m fin m := by
  refine start (by decide) (Nat.le_of_ble_eq_true rfl) ?_
  intro p e s mm args below meth c H locs ls X hI hr hl
  have X : CX p s mm args meth c cX12_roomOf 4 RX12 D ca ad (WA ca ad s.heap.size) := X
  have hx := X.1
  have hb := X.2.1
  have hl : lv_has ls 4 [(0, .ref (ad 99)), (1, .int x1), (2, .int x2)] := hl
  have hm : (fX12_roomOf_2 N N x1 x2 (0 : Int32) m) = some fin := hm
  have hpm : m = m := rfl
  refine lv_iconst (v := (0 : Int32)) hx hb dX12_roomOf_0 (by decide) ?_
  refine lv_istore_n (lv' := [(3, .int (0 : Int32)), (0, .ref (ad 99)), (1, .int x1), (2, .int x2)]) hx hb dX12_roomOf_1 rfl hl (by decide) rfl (fun ls hl => ?_)
  exact tX12_roomOf_2 N hn X hr fin m  N x1 x2 (0 : Int32) m H locs ls hI (lv_sub hl [1, 2, 3, 0] rfl) hm hpm
abbrev rmX12_game : Room := { frames := 2, cells := 0, slots := 0, locals := 46 }
abbrev cwX12_game : Cond := .code yX12_game cX12_game 5 (some .int)
theorem cmX12_game : cwX12_game ∈ BIG := (tb8 (List.mem_of_getElem? (i := 96) rfl) rfl)
def fX12_game (N : Nat) (x1 : Int32) (x2 : Int32) (x3 : Int32) (m : Mem) : Option (Int32 × Mem) := (fX12_isTub x1 (mI m 99 0 (0 : Int32))).bind (fun q1 => if q1 = 0 then (some ((-1 : Int32), (mI m 99 0 (0 : Int32)))) else (if x2 < 0 then (some ((-1 : Int32), (mI m 99 0 (0 : Int32)))) else (if (98 : Int32) < x2 then (some ((-1 : Int32), (mI m 99 0 (0 : Int32)))) else (if x3 < 0 then (some ((-1 : Int32), (mI m 99 0 (0 : Int32)))) else (if x3 ≤ (1 : Int32) then (if x1 < 0 ∨ 138 ≤ x1.toNatClampNeg then none else (if ((mI m 99 0 (0 : Int32)).1 127 x1.toNatClampNeg) ≤ ((10 : Int32) * x2) then ((fX12_roomOf N x1 x2 (mI m 99 0 (0 : Int32))).bind (fun q10 => if x3 = 0 then (if (jrem q10 (4 : Int32)) = 0 then (some ((1 : Int32), (mI m 99 0 (0 : Int32)))) else (some ((0 : Int32), (mI m 99 0 (0 : Int32))))) else (if (jrem q10 (4 : Int32)) = 0 then (some ((-2 : Int32), (mI m 99 0 (0 : Int32)))) else (some ((jrem q10 (4 : Int32)), (mI m 99 0 (0 : Int32))))))) else (some ((-2 : Int32), (mI m 99 0 (0 : Int32)))))) else (some ((-1 : Int32), (mI m 99 0 (0 : Int32)))))))))
set_option maxHeartbeats 4000000 in
set_option maxRecDepth 100000 in
theorem ctX12_game {l : Launch} {D : va_G} {ca : Nat → ClassId} {ad : Nat → Nat} (N : Nat) (x1 : Int32) (x2 : Int32) (x3 : Int32)  (hn : HNr ca) (m : Mem) (fin : (Int32 × Mem)) (hm : fX12_game N x1 x2 x3 m = some fin) : CI l D ca ad yX12_game cwX12_game rmX12_game [.ref (ad 99), .int x1, .int x2, .int x3] m fin.1 fin.2 := by
  refine start (by decide) (Nat.le_of_ble_eq_true rfl) ?_
  intro p e s mm args below meth c H locs ls X hI hr hl
  have X : CX p s mm args meth c cX12_game 5 RX12 D ca ad (WA ca ad s.heap.size) := X
  have hx := X.1
  have hb := X.2.1
  have hl : lv_has ls 5 [(0, .ref (ad 99)), (1, .int x1), (2, .int x2), (3, .int x3)] := hl
  have hm : ((fX12_isTub x1 (mI m 99 0 (0 : Int32))).bind (fun q1 => if q1 = 0 then (some ((-1 : Int32), (mI m 99 0 (0 : Int32)))) else (if x2 < 0 then (some ((-1 : Int32), (mI m 99 0 (0 : Int32)))) else (if (98 : Int32) < x2 then (some ((-1 : Int32), (mI m 99 0 (0 : Int32)))) else (if x3 < 0 then (some ((-1 : Int32), (mI m 99 0 (0 : Int32)))) else (if x3 ≤ (1 : Int32) then (if x1 < 0 ∨ 138 ≤ x1.toNatClampNeg then none else (if ((mI m 99 0 (0 : Int32)).1 127 x1.toNatClampNeg) ≤ ((10 : Int32) * x2) then ((fX12_roomOf N x1 x2 (mI m 99 0 (0 : Int32))).bind (fun q10 => if x3 = 0 then (if (jrem q10 (4 : Int32)) = 0 then (some ((1 : Int32), (mI m 99 0 (0 : Int32)))) else (some ((0 : Int32), (mI m 99 0 (0 : Int32))))) else (if (jrem q10 (4 : Int32)) = 0 then (some ((-2 : Int32), (mI m 99 0 (0 : Int32)))) else (some ((jrem q10 (4 : Int32)), (mI m 99 0 (0 : Int32))))))) else (some ((-2 : Int32), (mI m 99 0 (0 : Int32)))))) else (some ((-1 : Int32), (mI m 99 0 (0 : Int32)))))))))) = some fin := hm
  refine lv_aload_n hx hb dX12_game_0 rfl (lv_at hl 0 rfl) ?_
  refine lv_iconst (v := (0 : Int32)) hx hb dX12_game_1 (by decide) ?_
  refine pI X hI fpX12_154 (la_99 hn) dX12_game_2 (fun H locs hI => ?_)
  refine lv_aload_n hx hb dX12_game_5 rfl (lv_at hl 0 rfl) ?_
  refine lv_iload_n hx hb dX12_game_6 rfl (lv_at hl 1 rfl) ?_
  obtain ⟨q1, h2, hm⟩ := g_b hm
  refine backI X hI (runV X hI (ctX12_isTub x1  hn _ _ h2 _) mdX12_413 (la_99 hn) rfl ⟨rfl, rfl⟩ ⟨Nat.le_of_ble_eq_true rfl, Nat.le_of_ble_eq_true rfl⟩ rfl hl.1 rfl (Nat.le_of_ble_eq_true rfl) dX12_game_7) (fun H locs hI => ?_)
  refine lv_if_eq (tgt := 32) hx hb dX12_game_10 (by decide) (fun c3 => ?_) (fun c3 => ?_)
  · have hm := g_t c3 hm
    refine lv_iconst (v := (-1 : Int32)) hx hb dX12_game_32 (by decide) ?_
    exact rI X hI hr (g_p hm).1 (g_p hm).2 dX12_game_33
  · have hm := g_f c3 hm
    refine lv_iload_n hx hb dX12_game_13 rfl (lv_at hl 2 rfl) ?_
    refine lv_if_lt (tgt := 32) hx hb dX12_game_14 (by decide) (fun c4 => ?_) (fun c4 => ?_)
    · have hm := g_t c4 hm
      refine lv_iconst (v := (-1 : Int32)) hx hb dX12_game_32 (by decide) ?_
      exact rI X hI hr (g_p hm).1 (g_p hm).2 dX12_game_33
    · have hm := g_f c4 hm
      refine lv_iload_n hx hb dX12_game_17 rfl (lv_at hl 2 rfl) ?_
      refine lv_bipush (v := (98 : Int32)) hx hb dX12_game_18 (by decide) ?_
      refine lv_icmp_gt (tgt := 32) hx hb dX12_game_20 (by decide) (fun c5 => ?_) (fun c5 => ?_)
      · have hm := g_t c5 hm
        refine lv_iconst (v := (-1 : Int32)) hx hb dX12_game_32 (by decide) ?_
        exact rI X hI hr (g_p hm).1 (g_p hm).2 dX12_game_33
      · have hm := g_f c5 hm
        refine lv_iload_n hx hb dX12_game_23 rfl (lv_at hl 3 rfl) ?_
        refine lv_if_lt (tgt := 32) hx hb dX12_game_24 (by decide) (fun c6 => ?_) (fun c6 => ?_)
        · have hm := g_t c6 hm
          refine lv_iconst (v := (-1 : Int32)) hx hb dX12_game_32 (by decide) ?_
          exact rI X hI hr (g_p hm).1 (g_p hm).2 dX12_game_33
        · have hm := g_f c6 hm
          refine lv_iload_n hx hb dX12_game_27 rfl (lv_at hl 3 rfl) ?_
          refine lv_iconst (v := (1 : Int32)) hx hb dX12_game_28 (by decide) ?_
          refine lv_icmp_le (tgt := 34) hx hb dX12_game_29 (by decide) (fun c7 => ?_) (fun c7 => ?_)
          · have hm := g_t c7 hm
            refine lv_aload_n hx hb dX12_game_34 rfl (lv_at hl 0 rfl) ?_
            refine gR X hI fdX12_96 (la_99 hn) rf12_43 dX12_game_35 ?_
            refine lv_iload_n hx hb dX12_game_38 rfl (lv_at hl 1 rfl) ?_
            obtain ⟨g8, hm⟩ := g_no hm
            refine aI X hI (la_127 hn) g8 dX12_game_39 ?_
            refine lv_bipush (v := (10 : Int32)) hx hb dX12_game_40 (by decide) ?_
            refine lv_iload_n hx hb dX12_game_42 rfl (lv_at hl 2 rfl) ?_
            refine lv_imul hx hb dX12_game_43 ?_
            refine lv_icmp_le (tgt := 50) hx hb dX12_game_44 (by decide) (fun c9 => ?_) (fun c9 => ?_)
            · have hm := g_t c9 hm
              refine lv_aload_n hx hb dX12_game_50 rfl (lv_at hl 0 rfl) ?_
              refine lv_iload_n hx hb dX12_game_51 rfl (lv_at hl 1 rfl) ?_
              refine lv_iload_n hx hb dX12_game_52 rfl (lv_at hl 2 rfl) ?_
              obtain ⟨q10, h11, hm⟩ := g_b hm
              refine backI X hI (runV X hI (ctX12_roomOf N x1 x2  hn _ _ h11 _) mdX12_461 (la_99 hn) rfl ⟨rfl, rfl⟩ ⟨Nat.le_of_ble_eq_true rfl, Nat.le_of_ble_eq_true rfl⟩ rfl hl.1 rfl (Nat.le_of_ble_eq_true rfl) dX12_game_53) (fun H locs hI => ?_)
              refine lv_iconst (v := (4 : Int32)) hx hb dX12_game_56 (by decide) ?_
              refine kRem hx hb dX12_game_57 (by decide) ?_
              refine lv_istore (lv' := [(4, .int (jrem q10 (4 : Int32))), (0, .ref (ad 99)), (1, .int x1), (2, .int x2), (3, .int x3)]) hx hb dX12_game_58 hl (by decide) rfl (fun ls hl => ?_)
              refine lv_iload_n hx hb dX12_game_60 rfl (lv_at hl 4 rfl) ?_
              refine lv_if_ne (tgt := 75) hx hb dX12_game_61 (by decide) (fun c12 => ?_) (fun c12 => ?_)
              · have hm := g_f c12 hm
                refine lv_iload hx hb dX12_game_75 (lv_at hl 0 rfl) ?_
                refine lv_if_ne (tgt := 85) hx hb dX12_game_77 (by decide) (fun c13 => ?_) (fun c13 => ?_)
                · have hm := g_f c13 hm
                  refine lv_iload hx hb dX12_game_85 (lv_at hl 0 rfl) ?_
                  exact rI X hI hr (g_p hm).1 (g_p hm).2 dX12_game_87
                · have hm := g_t c13 hm
                  refine lv_bipush (v := (-2 : Int32)) hx hb dX12_game_80 (by decide) ?_
                  refine lv_goto (tgt := 87) hx hb dX12_game_82 (by decide) ?_
                  exact rI X hI hr (g_p hm).1 (g_p hm).2 dX12_game_87
              · have hm := g_t c12 hm
                refine lv_iload hx hb dX12_game_64 (lv_at hl 0 rfl) ?_
                refine lv_if_ne (tgt := 73) hx hb dX12_game_66 (by decide) (fun c14 => ?_) (fun c14 => ?_)
                · have hm := g_f c14 hm
                  refine lv_iconst (v := (0 : Int32)) hx hb dX12_game_73 (by decide) ?_
                  exact rI X hI hr (g_p hm).1 (g_p hm).2 dX12_game_74
                · have hm := g_t c14 hm
                  refine lv_iconst (v := (1 : Int32)) hx hb dX12_game_69 (by decide) ?_
                  refine lv_goto (tgt := 74) hx hb dX12_game_70 (by decide) ?_
                  exact rI X hI hr (g_p hm).1 (g_p hm).2 dX12_game_74
            · have hm := g_f c9 hm
              refine lv_bipush (v := (-2 : Int32)) hx hb dX12_game_47 (by decide) ?_
              exact rI X hI hr (g_p hm).1 (g_p hm).2 dX12_game_49
          · have hm := g_f c7 hm
            refine lv_iconst (v := (-1 : Int32)) hx hb dX12_game_32 (by decide) ?_
            exact rI X hI hr (g_p hm).1 (g_p hm).2 dX12_game_33
abbrev rmX12_tells : Room := { frames := 4, cells := 0, slots := 0, locals := 97 }
abbrev cwX12_tells : Cond := .code yX12_tells cX12_tells 4 (some .int)
theorem cmX12_tells : cwX12_tells ∈ BIG := (tb8 (List.mem_of_getElem? (i := 104) rfl) rfl)
def fX12_tells_19 (N : Nat) : Nat → Int32 → Int32 → Int32 → Mem → Option (Int32 × Mem)
  | 0, _, _, _, _ => none
  | n + 1, x1, x2, x3, m => if (m.1 101 0) ≤ x3 then (some ((imin x2 ((m.1 101 0) - x2)), m)) else ((fX12_isAtEase N (0 : Int32) x3 x1 (0 : Int32) m).bind (fun q5 => if q5.1 = 0 then (fX12_tells_19 N n x1 (x2 + (0 : Int32)) (x3 + (1 : Int32)) q5.2) else (fX12_tells_19 N n x1 (x2 + (1 : Int32)) (x3 + (1 : Int32)) q5.2)))
set_option maxHeartbeats 4000000 in
set_option maxRecDepth 100000 in
theorem tX12_tells_19 (N : Nat) {l : Launch} {D : va_G} {ca : Nat → ClassId} {ad : Nat → Nat} {p : Program} {e : Env} {s : State} {mm : MethodId} {args : Array Value} {below : List Frame} {meth : Method} {c : Code}  (hn : HNr ca) (X : CX p s mm args meth c cX12_tells 4 RX12 D ca ad (WA ca ad s.heap.size)) (hr : meth.sig.returnType = (some .int)) (fin : (Int32 × Mem))  : ∀ (n : Nat) (x1 : Int32) (x2 : Int32) (x3 : Int32) (m : Mem) (H : Heap) (locs : List Loc) (ls : Array Slot), IW D ca ad (WA ca ad s.heap.size) s m H locs → lv_has ls 4 [(0, .ref (ad 99)), (1, .int x1), (2, .int x2), (3, .int x3)] → fX12_tells_19 N n x1 x2 x3 m = some fin → W p l e rmX12_tells s mm args below meth c H locs 0 0 (MQ below (QI D ca ad s.heap.size fin.1 fin.2) args s 0 0 (WA ca ad s.heap.size)) (F0 mm 19 ls []) := by
  have hx := X.1
  have hb := X.2.1
  intro n
  induction n with
  | zero => intro x1 x2 x3 m H locs ls hI hl hm
            exact absurd hm (by intro q; cases q)
  | succ n ih =>
    intro x1 x2 x3 m H locs ls hI hl hm
    have hm : (if (m.1 101 0) ≤ x3 then (some ((imin x2 ((m.1 101 0) - x2)), m)) else ((fX12_isAtEase N (0 : Int32) x3 x1 (0 : Int32) m).bind (fun q5 => if q5.1 = 0 then (fX12_tells_19 N n x1 (x2 + (0 : Int32)) (x3 + (1 : Int32)) q5.2) else (fX12_tells_19 N n x1 (x2 + (1 : Int32)) (x3 + (1 : Int32)) q5.2)))) = some fin := hm
    refine lv_iload_n hx hb dX12_tells_19 rfl (lv_at hl 3 rfl) ?_
    refine lv_aload_n hx hb dX12_tells_20 rfl (lv_at hl 0 rfl) ?_
    refine gR X hI fdX12_13 (la_99 hn) rf12_3 dX12_tells_21 ?_
    refine lv_iconst (v := (0 : Int32)) hx hb dX12_tells_24 (by decide) ?_
    refine aIc (j := 0) X hI (la_101 hn) (by decide) (by decide) dX12_tells_25 ?_
    refine lv_icmp_ge (tgt := 54) hx hb dX12_tells_26 (by decide) (fun c4 => ?_) (fun c4 => ?_)
    · have hm := g_t c4 hm
      refine lv_iload_n hx hb dX12_tells_54 rfl (lv_at hl 2 rfl) ?_
      refine lv_aload_n hx hb dX12_tells_55 rfl (lv_at hl 0 rfl) ?_
      refine gR X hI fdX12_13 (la_99 hn) rf12_3 dX12_tells_56 ?_
      refine lv_iconst (v := (0 : Int32)) hx hb dX12_tells_59 (by decide) ?_
      refine aIc (j := 0) X hI (la_101 hn) (by decide) (by decide) dX12_tells_60 ?_
      refine lv_iload_n hx hb dX12_tells_61 rfl (lv_at hl 2 rfl) ?_
      refine lv_isub hx hb dX12_tells_62 ?_
      refine kMin X mpX12_364 hl.1 (Nat.le_of_ble_eq_true rfl) (Nat.le_of_ble_eq_true rfl) dX12_tells_63 ?_
      exact rI X hI hr (g_p hm).1 (g_p hm).2 dX12_tells_66
    · have hm := g_f c4 hm
      refine lv_iload_n hx hb dX12_tells_29 rfl (lv_at hl 2 rfl) ?_
      refine lv_aload_n hx hb dX12_tells_30 rfl (lv_at hl 0 rfl) ?_
      refine lv_iconst (v := (0 : Int32)) hx hb dX12_tells_31 (by decide) ?_
      refine lv_iload_n hx hb dX12_tells_32 rfl (lv_at hl 3 rfl) ?_
      refine lv_iload_n hx hb dX12_tells_33 rfl (lv_at hl 1 rfl) ?_
      refine lv_iconst (v := (0 : Int32)) hx hb dX12_tells_34 (by decide) ?_
      obtain ⟨q5, h6, hm⟩ := g_b hm
      refine backI X hI (runV X hI (ctX12_isAtEase N (0 : Int32) x3 x1 (0 : Int32)  hn _ _ h6 _) mdX12_382 (la_99 hn) rfl ⟨rfl, rfl⟩ ⟨Nat.le_of_ble_eq_true rfl, Nat.le_of_ble_eq_true rfl⟩ rfl hl.1 rfl (Nat.le_of_ble_eq_true rfl) dX12_tells_35) (fun H locs hI => ?_)
      refine lv_if_eq (tgt := 45) hx hb dX12_tells_38 (by decide) (fun c7 => ?_) (fun c7 => ?_)
      · have hm := g_t c7 hm
        refine lv_iconst (v := (0 : Int32)) hx hb dX12_tells_45 (by decide) ?_
        refine lv_iadd hx hb dX12_tells_46 ?_
        refine lv_istore_n (lv' := [(2, .int (x2 + (0 : Int32))), (0, .ref (ad 99)), (1, .int x1), (3, .int x3)]) hx hb dX12_tells_47 rfl hl (by decide) rfl (fun ls hl => ?_)
        refine lv_iinc (v := (x3 + (1 : Int32))) (lv' := [(3, .int (x3 + (1 : Int32))), (2, .int (x2 + (0 : Int32))), (0, .ref (ad 99)), (1, .int x1)]) hx hb dX12_tells_48 hl (k := 3) rfl rfl (by decide) rfl (fun ls hl => ?_)
        refine lv_goto (tgt := 19) hx hb dX12_tells_51 (by decide) ?_
        exact ih x1 (x2 + (0 : Int32)) (x3 + (1 : Int32)) q5.2 H locs ls hI (lv_sub hl [2, 3, 1, 0] rfl) hm
      · have hm := g_f c7 hm
        refine lv_iconst (v := (1 : Int32)) hx hb dX12_tells_41 (by decide) ?_
        refine lv_goto (tgt := 46) hx hb dX12_tells_42 (by decide) ?_
        refine lv_iadd hx hb dX12_tells_46 ?_
        refine lv_istore_n (lv' := [(2, .int (x2 + (1 : Int32))), (0, .ref (ad 99)), (1, .int x1), (3, .int x3)]) hx hb dX12_tells_47 rfl hl (by decide) rfl (fun ls hl => ?_)
        refine lv_iinc (v := (x3 + (1 : Int32))) (lv' := [(3, .int (x3 + (1 : Int32))), (2, .int (x2 + (1 : Int32))), (0, .ref (ad 99)), (1, .int x1)]) hx hb dX12_tells_48 hl (k := 3) rfl rfl (by decide) rfl (fun ls hl => ?_)
        refine lv_goto (tgt := 19) hx hb dX12_tells_51 (by decide) ?_
        exact ih x1 (x2 + (1 : Int32)) (x3 + (1 : Int32)) q5.2 H locs ls hI (lv_sub hl [2, 3, 1, 0] rfl) hm
def fX12_tells (N : Nat) (x1 : Int32) (m : Mem) : Option (Int32 × Mem) := (fX12_isTub x1 (mI m 99 0 (0 : Int32))).bind (fun q1 => if q1 = 0 then (some ((-1 : Int32), (mI m 99 0 (0 : Int32)))) else (fX12_tells_19 N N x1 (0 : Int32) (0 : Int32) (mI m 99 0 (0 : Int32))))
set_option maxHeartbeats 4000000 in
set_option maxRecDepth 100000 in
theorem ctX12_tells {l : Launch} {D : va_G} {ca : Nat → ClassId} {ad : Nat → Nat} (N : Nat) (x1 : Int32)  (hn : HNr ca) (m : Mem) (fin : (Int32 × Mem)) (hm : fX12_tells N x1 m = some fin) : CI l D ca ad yX12_tells cwX12_tells rmX12_tells [.ref (ad 99), .int x1] m fin.1 fin.2 := by
  refine start (by decide) (Nat.le_of_ble_eq_true rfl) ?_
  intro p e s mm args below meth c H locs ls X hI hr hl
  have X : CX p s mm args meth c cX12_tells 4 RX12 D ca ad (WA ca ad s.heap.size) := X
  have hx := X.1
  have hb := X.2.1
  have hl : lv_has ls 4 [(0, .ref (ad 99)), (1, .int x1)] := hl
  have hm : ((fX12_isTub x1 (mI m 99 0 (0 : Int32))).bind (fun q1 => if q1 = 0 then (some ((-1 : Int32), (mI m 99 0 (0 : Int32)))) else (fX12_tells_19 N N x1 (0 : Int32) (0 : Int32) (mI m 99 0 (0 : Int32))))) = some fin := hm
  refine lv_aload_n hx hb dX12_tells_0 rfl (lv_at hl 0 rfl) ?_
  refine lv_iconst (v := (0 : Int32)) hx hb dX12_tells_1 (by decide) ?_
  refine pI X hI fpX12_154 (la_99 hn) dX12_tells_2 (fun H locs hI => ?_)
  refine lv_aload_n hx hb dX12_tells_5 rfl (lv_at hl 0 rfl) ?_
  refine lv_iload_n hx hb dX12_tells_6 rfl (lv_at hl 1 rfl) ?_
  obtain ⟨q1, h2, hm⟩ := g_b hm
  refine backI X hI (runV X hI (ctX12_isTub x1  hn _ _ h2 _) mdX12_413 (la_99 hn) rfl ⟨rfl, rfl⟩ ⟨Nat.le_of_ble_eq_true rfl, Nat.le_of_ble_eq_true rfl⟩ rfl hl.1 rfl (Nat.le_of_ble_eq_true rfl) dX12_tells_7) (fun H locs hI => ?_)
  refine lv_if_ne (tgt := 15) hx hb dX12_tells_10 (by decide) (fun c3 => ?_) (fun c3 => ?_)
  · have hm := g_f c3 hm
    refine lv_iconst (v := (0 : Int32)) hx hb dX12_tells_15 (by decide) ?_
    refine lv_istore_n (lv' := [(2, .int (0 : Int32)), (0, .ref (ad 99)), (1, .int x1)]) hx hb dX12_tells_16 rfl hl (by decide) rfl (fun ls hl => ?_)
    refine lv_iconst (v := (0 : Int32)) hx hb dX12_tells_17 (by decide) ?_
    refine lv_istore_n (lv' := [(3, .int (0 : Int32)), (2, .int (0 : Int32)), (0, .ref (ad 99)), (1, .int x1)]) hx hb dX12_tells_18 rfl hl (by decide) rfl (fun ls hl => ?_)
    exact tX12_tells_19 N hn X hr fin  N x1 (0 : Int32) (0 : Int32) (mI m 99 0 (0 : Int32)) H locs ls hI (lv_sub hl [2, 3, 1, 0] rfl) hm
  · have hm := g_t c3 hm
    refine lv_iconst (v := (-1 : Int32)) hx hb dX12_tells_13 (by decide) ?_
    exact rI X hI hr (g_p hm).1 (g_p hm).2 dX12_tells_14
abbrev rmX12_hasOf : Room := { frames := 0, cells := 0, slots := 0, locals := 0 }
def fX12_hasOf  (x1 : Int32) (x2 : Int32) (x3 : Int32) (m : Mem) : Option Int32 := if x1 < 0 ∨ 12 ≤ x1.toNatClampNeg then none else (if x2 = 0 then (if x3 = 0 then (some ((m.1 104 x1.toNatClampNeg) - (2 : Int32))) else (some ((m.1 104 x1.toNatClampNeg) + (3 : Int32)))) else (if x3 = 0 then (some (1 : Int32)) else (some ((m.1 104 x1.toNatClampNeg) / (2 : Int32)))))
set_option maxHeartbeats 4000000 in
set_option maxRecDepth 100000 in
theorem ctX12_hasOf {l : Launch} {D : va_G} {ca : Nat → ClassId} {ad : Nat → Nat}  (x1 : Int32) (x2 : Int32) (x3 : Int32)  (hn : HNr ca) (m : Mem) (fin : Int32) (hm : fX12_hasOf x1 x2 x3 m = some fin) : CI l D ca ad yX12_hasOf cwX12_hasOf rmX12_hasOf [.ref (ad 99), .int x1, .int x2, .int x3] m fin m := by
  refine start (by decide) (Nat.le_of_ble_eq_true rfl) ?_
  intro p e s mm args below meth c H locs ls X hI hr hl
  have X : CX p s mm args meth c cX12_hasOf 5 RX12 D ca ad (WA ca ad s.heap.size) := X
  have hx := X.1
  have hb := X.2.1
  have hl : lv_has ls 5 [(0, .ref (ad 99)), (1, .int x1), (2, .int x2), (3, .int x3)] := hl
  have hm : (if x1 < 0 ∨ 12 ≤ x1.toNatClampNeg then none else (if x2 = 0 then (if x3 = 0 then (some ((m.1 104 x1.toNatClampNeg) - (2 : Int32))) else (some ((m.1 104 x1.toNatClampNeg) + (3 : Int32)))) else (if x3 = 0 then (some (1 : Int32)) else (some ((m.1 104 x1.toNatClampNeg) / (2 : Int32)))))) = some fin := hm
  have hpm : m = m := rfl
  refine lv_aload_n hx hb dX12_hasOf_0 rfl (lv_at hl 0 rfl) ?_
  refine gR X hI fdX12_22 (la_99 hn) rf12_6 dX12_hasOf_1 ?_
  refine lv_iload_n hx hb dX12_hasOf_4 rfl (lv_at hl 1 rfl) ?_
  obtain ⟨g1, hm⟩ := g_no hm
  refine aI X hI (la_104 hn) g1 dX12_hasOf_5 ?_
  refine lv_istore (lv' := [(4, .int (m.1 104 x1.toNatClampNeg)), (0, .ref (ad 99)), (1, .int x1), (2, .int x2), (3, .int x3)]) hx hb dX12_hasOf_6 hl (by decide) rfl (fun ls hl => ?_)
  refine lv_iload_n hx hb dX12_hasOf_8 rfl (lv_at hl 3 rfl) ?_
  refine lv_if_ne (tgt := 28) hx hb dX12_hasOf_9 (by decide) (fun c2 => ?_) (fun c2 => ?_)
  · have hm := g_f c2 hm
    refine lv_iload_n hx hb dX12_hasOf_28 rfl (lv_at hl 4 rfl) ?_
    refine lv_if_ne (tgt := 36) hx hb dX12_hasOf_29 (by decide) (fun c3 => ?_) (fun c3 => ?_)
    · have hm := g_f c3 hm
      refine lv_iload hx hb dX12_hasOf_36 (lv_at hl 0 rfl) ?_
      refine lv_iconst (v := (2 : Int32)) hx hb dX12_hasOf_38 (by decide) ?_
      refine lv_idiv hx hb dX12_hasOf_39 (by decide) ?_
      exact rI X hI hr (g_1 hm) hpm dX12_hasOf_40
    · have hm := g_t c3 hm
      refine lv_iconst (v := (1 : Int32)) hx hb dX12_hasOf_32 (by decide) ?_
      refine lv_goto (tgt := 40) hx hb dX12_hasOf_33 (by decide) ?_
      exact rI X hI hr (g_1 hm) hpm dX12_hasOf_40
  · have hm := g_t c2 hm
    refine lv_iload_n hx hb dX12_hasOf_12 rfl (lv_at hl 4 rfl) ?_
    refine lv_if_ne (tgt := 23) hx hb dX12_hasOf_13 (by decide) (fun c4 => ?_) (fun c4 => ?_)
    · have hm := g_f c4 hm
      refine lv_iload hx hb dX12_hasOf_23 (lv_at hl 0 rfl) ?_
      refine lv_iconst (v := (3 : Int32)) hx hb dX12_hasOf_25 (by decide) ?_
      refine lv_iadd hx hb dX12_hasOf_26 ?_
      exact rI X hI hr (g_1 hm) hpm dX12_hasOf_27
    · have hm := g_t c4 hm
      refine lv_iload hx hb dX12_hasOf_16 (lv_at hl 0 rfl) ?_
      refine lv_iconst (v := (2 : Int32)) hx hb dX12_hasOf_18 (by decide) ?_
      refine lv_isub hx hb dX12_hasOf_19 ?_
      refine lv_goto (tgt := 27) hx hb dX12_hasOf_20 (by decide) ?_
      exact rI X hI hr (g_1 hm) hpm dX12_hasOf_27
abbrev rmX12_isRest : Room := { frames := 1, cells := 0, slots := 0, locals := 24 }
def fX12_isRest  (x1 : Int32) (x2 : Int32) (x3 : Int32) (m : Mem) : Option Int32 := (fX12_hasOf x1 ((1 : Int32) - (x3 / (2 : Int32))) (jrem x3 (2 : Int32)) m).bind (fun q1 => (fX12_hasOf x1 (x3 / (2 : Int32)) (jrem x3 (2 : Int32)) m).bind (fun q3 => if q3 < q1 then (some (0 : Int32)) else ((fX12_hasOf x2 ((1 : Int32) - (jrem x3 (2 : Int32))) (x3 / (2 : Int32)) m).bind (fun q6 => (fX12_hasOf x2 (jrem x3 (2 : Int32)) (x3 / (2 : Int32)) m).bind (fun q8 => if q8 < q6 then (some (0 : Int32)) else (some (1 : Int32)))))))
set_option maxHeartbeats 4000000 in
set_option maxRecDepth 100000 in
theorem ctX12_isRest {l : Launch} {D : va_G} {ca : Nat → ClassId} {ad : Nat → Nat}  (x1 : Int32) (x2 : Int32) (x3 : Int32)  (hn : HNr ca) (m : Mem) (fin : Int32) (hm : fX12_isRest x1 x2 x3 m = some fin) : CI l D ca ad yX12_isRest cwX12_isRest rmX12_isRest [.ref (ad 99), .int x1, .int x2, .int x3] m fin m := by
  refine start (by decide) (Nat.le_of_ble_eq_true rfl) ?_
  intro p e s mm args below meth c H locs ls X hI hr hl
  have X : CX p s mm args meth c cX12_isRest 6 RX12 D ca ad (WA ca ad s.heap.size) := X
  have hx := X.1
  have hb := X.2.1
  have hl : lv_has ls 6 [(0, .ref (ad 99)), (1, .int x1), (2, .int x2), (3, .int x3)] := hl
  have hm : ((fX12_hasOf x1 ((1 : Int32) - (x3 / (2 : Int32))) (jrem x3 (2 : Int32)) m).bind (fun q1 => (fX12_hasOf x1 (x3 / (2 : Int32)) (jrem x3 (2 : Int32)) m).bind (fun q3 => if q3 < q1 then (some (0 : Int32)) else ((fX12_hasOf x2 ((1 : Int32) - (jrem x3 (2 : Int32))) (x3 / (2 : Int32)) m).bind (fun q6 => (fX12_hasOf x2 (jrem x3 (2 : Int32)) (x3 / (2 : Int32)) m).bind (fun q8 => if q8 < q6 then (some (0 : Int32)) else (some (1 : Int32)))))))) = some fin := hm
  have hpm : m = m := rfl
  refine lv_iload_n hx hb dX12_isRest_0 rfl (lv_at hl 3 rfl) ?_
  refine lv_iconst (v := (2 : Int32)) hx hb dX12_isRest_1 (by decide) ?_
  refine lv_idiv hx hb dX12_isRest_2 (by decide) ?_
  refine lv_istore (lv' := [(4, .int (x3 / (2 : Int32))), (0, .ref (ad 99)), (1, .int x1), (2, .int x2), (3, .int x3)]) hx hb dX12_isRest_3 hl (by decide) rfl (fun ls hl => ?_)
  refine lv_iload_n hx hb dX12_isRest_5 rfl (lv_at hl 4 rfl) ?_
  refine lv_iconst (v := (2 : Int32)) hx hb dX12_isRest_6 (by decide) ?_
  refine kRem hx hb dX12_isRest_7 (by decide) ?_
  refine lv_istore (lv' := [(5, .int (jrem x3 (2 : Int32))), (4, .int (x3 / (2 : Int32))), (0, .ref (ad 99)), (1, .int x1), (2, .int x2), (3, .int x3)]) hx hb dX12_isRest_8 hl (by decide) rfl (fun ls hl => ?_)
  refine lv_aload_n hx hb dX12_isRest_10 rfl (lv_at hl 2 rfl) ?_
  refine lv_iload_n hx hb dX12_isRest_11 rfl (lv_at hl 3 rfl) ?_
  refine lv_iconst (v := (1 : Int32)) hx hb dX12_isRest_12 (by decide) ?_
  refine lv_iload hx hb dX12_isRest_13 (lv_at hl 1 rfl) ?_
  refine lv_isub hx hb dX12_isRest_15 ?_
  refine lv_iload hx hb dX12_isRest_16 (lv_at hl 0 rfl) ?_
  obtain ⟨q1, h2, hm⟩ := g_b hm
  refine backI X hI (runV X hI (ctX12_hasOf x1 ((1 : Int32) - (x3 / (2 : Int32))) (jrem x3 (2 : Int32))  hn _ _ h2 _) mdX12_464 (la_99 hn) rfl ⟨rfl, rfl⟩ ⟨Nat.le_of_ble_eq_true rfl, Nat.le_of_ble_eq_true rfl⟩ rfl hl.1 rfl (Nat.le_of_ble_eq_true rfl) dX12_isRest_18) (fun H locs hI => ?_)
  refine lv_aload_n hx hb dX12_isRest_21 rfl (lv_at hl 2 rfl) ?_
  refine lv_iload_n hx hb dX12_isRest_22 rfl (lv_at hl 3 rfl) ?_
  refine lv_iload hx hb dX12_isRest_23 (lv_at hl 1 rfl) ?_
  refine lv_iload hx hb dX12_isRest_25 (lv_at hl 0 rfl) ?_
  obtain ⟨q3, h4, hm⟩ := g_b hm
  refine backI X hI (runV X hI (ctX12_hasOf x1 (x3 / (2 : Int32)) (jrem x3 (2 : Int32))  hn _ _ h4 _) mdX12_464 (la_99 hn) rfl ⟨rfl, rfl⟩ ⟨Nat.le_of_ble_eq_true rfl, Nat.le_of_ble_eq_true rfl⟩ rfl hl.1 rfl (Nat.le_of_ble_eq_true rfl) dX12_isRest_27) (fun H locs hI => ?_)
  refine lv_icmp_gt (tgt := 60) hx hb dX12_isRest_30 (by decide) (fun c5 => ?_) (fun c5 => ?_)
  · have hm := g_t c5 hm
    refine lv_iconst (v := (0 : Int32)) hx hb dX12_isRest_60 (by decide) ?_
    exact rZ X hI hr (by decide) (g_1 hm) hpm dX12_isRest_61
  · have hm := g_f c5 hm
    refine lv_aload_n hx hb dX12_isRest_33 rfl (lv_at hl 2 rfl) ?_
    refine lv_iload_n hx hb dX12_isRest_34 rfl (lv_at hl 4 rfl) ?_
    refine lv_iconst (v := (1 : Int32)) hx hb dX12_isRest_35 (by decide) ?_
    refine lv_iload hx hb dX12_isRest_36 (lv_at hl 0 rfl) ?_
    refine lv_isub hx hb dX12_isRest_38 ?_
    refine lv_iload hx hb dX12_isRest_39 (lv_at hl 1 rfl) ?_
    obtain ⟨q6, h7, hm⟩ := g_b hm
    refine backI X hI (runV X hI (ctX12_hasOf x2 ((1 : Int32) - (jrem x3 (2 : Int32))) (x3 / (2 : Int32))  hn _ _ h7 _) mdX12_464 (la_99 hn) rfl ⟨rfl, rfl⟩ ⟨Nat.le_of_ble_eq_true rfl, Nat.le_of_ble_eq_true rfl⟩ rfl hl.1 rfl (Nat.le_of_ble_eq_true rfl) dX12_isRest_41) (fun H locs hI => ?_)
    refine lv_aload_n hx hb dX12_isRest_44 rfl (lv_at hl 2 rfl) ?_
    refine lv_iload_n hx hb dX12_isRest_45 rfl (lv_at hl 4 rfl) ?_
    refine lv_iload hx hb dX12_isRest_46 (lv_at hl 0 rfl) ?_
    refine lv_iload hx hb dX12_isRest_48 (lv_at hl 1 rfl) ?_
    obtain ⟨q8, h9, hm⟩ := g_b hm
    refine backI X hI (runV X hI (ctX12_hasOf x2 (jrem x3 (2 : Int32)) (x3 / (2 : Int32))  hn _ _ h9 _) mdX12_464 (la_99 hn) rfl ⟨rfl, rfl⟩ ⟨Nat.le_of_ble_eq_true rfl, Nat.le_of_ble_eq_true rfl⟩ rfl hl.1 rfl (Nat.le_of_ble_eq_true rfl) dX12_isRest_50) (fun H locs hI => ?_)
    refine lv_icmp_gt (tgt := 60) hx hb dX12_isRest_53 (by decide) (fun c10 => ?_) (fun c10 => ?_)
    · have hm := g_t c10 hm
      refine lv_iconst (v := (0 : Int32)) hx hb dX12_isRest_60 (by decide) ?_
      exact rZ X hI hr (by decide) (g_1 hm) hpm dX12_isRest_61
    · have hm := g_f c10 hm
      refine lv_iconst (v := (1 : Int32)) hx hb dX12_isRest_56 (by decide) ?_
      refine lv_goto (tgt := 61) hx hb dX12_isRest_57 (by decide) ?_
      exact rZ X hI hr (by decide) (g_1 hm) hpm dX12_isRest_61
abbrev rmX12_restOf : Room := { frames := 2, cells := 0, slots := 0, locals := 49 }
def fX12_restOf_6 (N : Nat) : Nat → Int32 → Int32 → Int32 → Int32 → Int32 → Mem → Option Int32
  | 0, _, _, _, _, _, _ => none
  | n + 1, x1, x2, x3, x4, x5, m => if (4 : Int32) ≤ x5 then (if x3 = (-1 : Int32) then (some x4) else (some (-2 : Int32))) else ((fX12_isRest x1 x2 x5 m).bind (fun q3 => if q3 = 0 then (fX12_restOf_6 N n x1 x2 x3 x4 (x5 + (1 : Int32)) m) else (if x4 = x3 then (some (((10 : Int32) * (x5 / (2 : Int32))) + (jrem x5 (2 : Int32)))) else (fX12_restOf_6 N n x1 x2 x3 (x4 + (1 : Int32)) (x5 + (1 : Int32)) m))))
set_option maxHeartbeats 4000000 in
set_option maxRecDepth 100000 in
theorem tX12_restOf_6 (N : Nat) {l : Launch} {D : va_G} {ca : Nat → ClassId} {ad : Nat → Nat} {p : Program} {e : Env} {s : State} {mm : MethodId} {args : Array Value} {below : List Frame} {meth : Method} {c : Code}  (hn : HNr ca) (X : CX p s mm args meth c cX12_restOf 6 RX12 D ca ad (WA ca ad s.heap.size)) (hr : meth.sig.returnType = (some .int)) (fin : Int32) (m0 : Mem)  : ∀ (n : Nat) (x1 : Int32) (x2 : Int32) (x3 : Int32) (x4 : Int32) (x5 : Int32) (m : Mem) (H : Heap) (locs : List Loc) (ls : Array Slot), IW D ca ad (WA ca ad s.heap.size) s m H locs → lv_has ls 6 [(0, .ref (ad 99)), (1, .int x1), (2, .int x2), (3, .int x3), (4, .int x4), (5, .int x5)] → fX12_restOf_6 N n x1 x2 x3 x4 x5 m = some fin → m = m0 → W p l e rmX12_restOf s mm args below meth c H locs 0 0 (MQ below (QI D ca ad s.heap.size fin m0) args s 0 0 (WA ca ad s.heap.size)) (F0 mm 6 ls []) := by
  have hx := X.1
  have hb := X.2.1
  intro n
  induction n with
  | zero => intro x1 x2 x3 x4 x5 m H locs ls hI hl hm hpm
            exact absurd hm (by intro q; cases q)
  | succ n ih =>
    intro x1 x2 x3 x4 x5 m H locs ls hI hl hm hpm
    have hm : (if (4 : Int32) ≤ x5 then (if x3 = (-1 : Int32) then (some x4) else (some (-2 : Int32))) else ((fX12_isRest x1 x2 x5 m).bind (fun q3 => if q3 = 0 then (fX12_restOf_6 N n x1 x2 x3 x4 (x5 + (1 : Int32)) m) else (if x4 = x3 then (some (((10 : Int32) * (x5 / (2 : Int32))) + (jrem x5 (2 : Int32)))) else (fX12_restOf_6 N n x1 x2 x3 (x4 + (1 : Int32)) (x5 + (1 : Int32)) m))))) = some fin := hm
    refine lv_iload hx hb dX12_restOf_6 (lv_at hl 5 rfl) ?_
    refine lv_iconst (v := (4 : Int32)) hx hb dX12_restOf_8 (by decide) ?_
    refine lv_icmp_ge (tgt := 54) hx hb dX12_restOf_9 (by decide) (fun c1 => ?_) (fun c1 => ?_)
    · have hm := g_t c1 hm
      refine lv_iload_n hx hb dX12_restOf_54 rfl (lv_at hl 3 rfl) ?_
      refine lv_iconst (v := (-1 : Int32)) hx hb dX12_restOf_55 (by decide) ?_
      refine lv_icmp_ne (tgt := 64) hx hb dX12_restOf_56 (by decide) (fun c2 => ?_) (fun c2 => ?_)
      · have hm := g_f c2 hm
        refine lv_bipush (v := (-2 : Int32)) hx hb dX12_restOf_64 (by decide) ?_
        exact rI X hI hr (g_1 hm) hpm dX12_restOf_66
      · have hm := g_t c2 hm
        refine lv_iload hx hb dX12_restOf_59 (lv_at hl 4 rfl) ?_
        refine lv_goto (tgt := 66) hx hb dX12_restOf_61 (by decide) ?_
        exact rI X hI hr (g_1 hm) hpm dX12_restOf_66
    · have hm := g_f c1 hm
      refine lv_aload_n hx hb dX12_restOf_12 rfl (lv_at hl 0 rfl) ?_
      refine lv_iload_n hx hb dX12_restOf_13 rfl (lv_at hl 1 rfl) ?_
      refine lv_iload_n hx hb dX12_restOf_14 rfl (lv_at hl 2 rfl) ?_
      refine lv_iload hx hb dX12_restOf_15 (lv_at hl 5 rfl) ?_
      obtain ⟨q3, h4, hm⟩ := g_b hm
      refine backI X hI (runV X hI (ctX12_isRest x1 x2 x5  hn _ _ h4 _) mdX12_468 (la_99 hn) rfl ⟨rfl, rfl⟩ ⟨Nat.le_of_ble_eq_true rfl, Nat.le_of_ble_eq_true rfl⟩ rfl hl.1 rfl (Nat.le_of_ble_eq_true rfl) dX12_restOf_17) (fun H locs hI => ?_)
      refine lv_if_ne (tgt := 26) hx hb dX12_restOf_20 (by decide) (fun c5 => ?_) (fun c5 => ?_)
      · have hm := g_f c5 hm
        refine lv_iload hx hb dX12_restOf_26 (lv_at hl 4 rfl) ?_
        refine lv_iload_n hx hb dX12_restOf_28 rfl (lv_at hl 3 rfl) ?_
        refine lv_icmp_ne (tgt := 45) hx hb dX12_restOf_29 (by decide) (fun c6 => ?_) (fun c6 => ?_)
        · have hm := g_f c6 hm
          refine lv_iinc (v := (x4 + (1 : Int32))) (lv' := [(4, .int (x4 + (1 : Int32))), (0, .ref (ad 99)), (1, .int x1), (2, .int x2), (3, .int x3), (5, .int x5)]) hx hb dX12_restOf_45 hl (k := 4) rfl rfl (by decide) rfl (fun ls hl => ?_)
          refine lv_iinc (v := (x5 + (1 : Int32))) (lv' := [(5, .int (x5 + (1 : Int32))), (4, .int (x4 + (1 : Int32))), (0, .ref (ad 99)), (1, .int x1), (2, .int x2), (3, .int x3)]) hx hb dX12_restOf_48 hl (k := 5) rfl rfl (by decide) rfl (fun ls hl => ?_)
          refine lv_goto (tgt := 6) hx hb dX12_restOf_51 (by decide) ?_
          exact ih x1 x2 x3 (x4 + (1 : Int32)) (x5 + (1 : Int32)) m H locs ls hI (lv_sub hl [2, 3, 4, 5, 1, 0] rfl) hm hpm
        · have hm := g_t c6 hm
          refine lv_bipush (v := (10 : Int32)) hx hb dX12_restOf_32 (by decide) ?_
          refine lv_iload hx hb dX12_restOf_34 (lv_at hl 5 rfl) ?_
          refine lv_iconst (v := (2 : Int32)) hx hb dX12_restOf_36 (by decide) ?_
          refine lv_idiv hx hb dX12_restOf_37 (by decide) ?_
          refine lv_imul hx hb dX12_restOf_38 ?_
          refine lv_iload hx hb dX12_restOf_39 (lv_at hl 5 rfl) ?_
          refine lv_iconst (v := (2 : Int32)) hx hb dX12_restOf_41 (by decide) ?_
          refine kRem hx hb dX12_restOf_42 (by decide) ?_
          refine lv_iadd hx hb dX12_restOf_43 ?_
          exact rI X hI hr (g_1 hm) hpm dX12_restOf_44
      · have hm := g_t c5 hm
        refine lv_goto (tgt := 48) hx hb dX12_restOf_23 (by decide) ?_
        refine lv_iinc (v := (x5 + (1 : Int32))) (lv' := [(5, .int (x5 + (1 : Int32))), (0, .ref (ad 99)), (1, .int x1), (2, .int x2), (3, .int x3), (4, .int x4)]) hx hb dX12_restOf_48 hl (k := 5) rfl rfl (by decide) rfl (fun ls hl => ?_)
        refine lv_goto (tgt := 6) hx hb dX12_restOf_51 (by decide) ?_
        exact ih x1 x2 x3 x4 (x5 + (1 : Int32)) m H locs ls hI (lv_sub hl [1, 2, 3, 4, 5, 0] rfl) hm hpm
def fX12_restOf (N : Nat) (x1 : Int32) (x2 : Int32) (x3 : Int32) (m : Mem) : Option Int32 := fX12_restOf_6 N N x1 x2 x3 (0 : Int32) (0 : Int32) m
set_option maxHeartbeats 4000000 in
set_option maxRecDepth 100000 in
theorem ctX12_restOf {l : Launch} {D : va_G} {ca : Nat → ClassId} {ad : Nat → Nat} (N : Nat) (x1 : Int32) (x2 : Int32) (x3 : Int32)  (hn : HNr ca) (m : Mem) (fin : Int32) (hm : fX12_restOf N x1 x2 x3 m = some fin) : CI l D ca ad yX12_restOf cwX12_restOf rmX12_restOf [.ref (ad 99), .int x1, .int x2, .int x3] m fin m := by
  refine start (by decide) (Nat.le_of_ble_eq_true rfl) ?_
  intro p e s mm args below meth c H locs ls X hI hr hl
  have X : CX p s mm args meth c cX12_restOf 6 RX12 D ca ad (WA ca ad s.heap.size) := X
  have hx := X.1
  have hb := X.2.1
  have hl : lv_has ls 6 [(0, .ref (ad 99)), (1, .int x1), (2, .int x2), (3, .int x3)] := hl
  have hm : (fX12_restOf_6 N N x1 x2 x3 (0 : Int32) (0 : Int32) m) = some fin := hm
  have hpm : m = m := rfl
  refine lv_iconst (v := (0 : Int32)) hx hb dX12_restOf_0 (by decide) ?_
  refine lv_istore (lv' := [(4, .int (0 : Int32)), (0, .ref (ad 99)), (1, .int x1), (2, .int x2), (3, .int x3)]) hx hb dX12_restOf_1 hl (by decide) rfl (fun ls hl => ?_)
  refine lv_iconst (v := (0 : Int32)) hx hb dX12_restOf_3 (by decide) ?_
  refine lv_istore (lv' := [(5, .int (0 : Int32)), (4, .int (0 : Int32)), (0, .ref (ad 99)), (1, .int x1), (2, .int x2), (3, .int x3)]) hx hb dX12_restOf_4 hl (by decide) rfl (fun ls hl => ?_)
  exact tX12_restOf_6 N hn X hr fin m  N x1 x2 x3 (0 : Int32) (0 : Int32) m H locs ls hI (lv_sub hl [2, 3, 4, 5, 1, 0] rfl) hm hpm
abbrev rmX12_areTwo : Room := { frames := 1, cells := 0, slots := 0, locals := 21 }
def fX12_areTwo  (x1 : Int32) (x2 : Int32) (m : Mem) : Option Int32 := (fX12_isKnight x1 m).bind (fun q1 => if q1 = 0 then (some (0 : Int32)) else ((fX12_isKnight x2 m).bind (fun q4 => if q4 = 0 then (some (0 : Int32)) else (if x1 = x2 then (some (0 : Int32)) else (some (1 : Int32))))))
set_option maxHeartbeats 4000000 in
set_option maxRecDepth 100000 in
theorem ctX12_areTwo {l : Launch} {D : va_G} {ca : Nat → ClassId} {ad : Nat → Nat}  (x1 : Int32) (x2 : Int32)  (hn : HNr ca) (m : Mem) (fin : Int32) (hm : fX12_areTwo x1 x2 m = some fin) : CI l D ca ad yX12_areTwo cwX12_areTwo rmX12_areTwo [.ref (ad 99), .int x1, .int x2] m fin m := by
  refine start (by decide) (Nat.le_of_ble_eq_true rfl) ?_
  intro p e s mm args below meth c H locs ls X hI hr hl
  have X : CX p s mm args meth c cX12_areTwo 3 RX12 D ca ad (WA ca ad s.heap.size) := X
  have hx := X.1
  have hb := X.2.1
  have hl : lv_has ls 3 [(0, .ref (ad 99)), (1, .int x1), (2, .int x2)] := hl
  have hm : ((fX12_isKnight x1 m).bind (fun q1 => if q1 = 0 then (some (0 : Int32)) else ((fX12_isKnight x2 m).bind (fun q4 => if q4 = 0 then (some (0 : Int32)) else (if x1 = x2 then (some (0 : Int32)) else (some (1 : Int32))))))) = some fin := hm
  have hpm : m = m := rfl
  refine lv_aload_n hx hb dX12_areTwo_0 rfl (lv_at hl 0 rfl) ?_
  refine lv_iload_n hx hb dX12_areTwo_1 rfl (lv_at hl 1 rfl) ?_
  obtain ⟨q1, h2, hm⟩ := g_b hm
  refine backI X hI (runV X hI (ctX12_isKnight x1  hn _ _ h2 _) mdX12_419 (la_99 hn) rfl ⟨rfl, rfl⟩ ⟨Nat.le_of_ble_eq_true rfl, Nat.le_of_ble_eq_true rfl⟩ rfl hl.1 rfl (Nat.le_of_ble_eq_true rfl) dX12_areTwo_2) (fun H locs hI => ?_)
  refine lv_if_eq (tgt := 25) hx hb dX12_areTwo_5 (by decide) (fun c3 => ?_) (fun c3 => ?_)
  · have hm := g_t c3 hm
    refine lv_iconst (v := (0 : Int32)) hx hb dX12_areTwo_25 (by decide) ?_
    exact rZ X hI hr (by decide) (g_1 hm) hpm dX12_areTwo_26
  · have hm := g_f c3 hm
    refine lv_aload_n hx hb dX12_areTwo_8 rfl (lv_at hl 0 rfl) ?_
    refine lv_iload_n hx hb dX12_areTwo_9 rfl (lv_at hl 2 rfl) ?_
    obtain ⟨q4, h5, hm⟩ := g_b hm
    refine backI X hI (runV X hI (ctX12_isKnight x2  hn _ _ h5 _) mdX12_419 (la_99 hn) rfl ⟨rfl, rfl⟩ ⟨Nat.le_of_ble_eq_true rfl, Nat.le_of_ble_eq_true rfl⟩ rfl hl.1 rfl (Nat.le_of_ble_eq_true rfl) dX12_areTwo_10) (fun H locs hI => ?_)
    refine lv_if_eq (tgt := 25) hx hb dX12_areTwo_13 (by decide) (fun c6 => ?_) (fun c6 => ?_)
    · have hm := g_t c6 hm
      refine lv_iconst (v := (0 : Int32)) hx hb dX12_areTwo_25 (by decide) ?_
      exact rZ X hI hr (by decide) (g_1 hm) hpm dX12_areTwo_26
    · have hm := g_f c6 hm
      refine lv_iload_n hx hb dX12_areTwo_16 rfl (lv_at hl 1 rfl) ?_
      refine lv_iload_n hx hb dX12_areTwo_17 rfl (lv_at hl 2 rfl) ?_
      refine lv_icmp_eq (tgt := 25) hx hb dX12_areTwo_18 (by decide) (fun c7 => ?_) (fun c7 => ?_)
      · have hm := g_t c7 hm
        refine lv_iconst (v := (0 : Int32)) hx hb dX12_areTwo_25 (by decide) ?_
        exact rZ X hI hr (by decide) (g_1 hm) hpm dX12_areTwo_26
      · have hm := g_f c7 hm
        refine lv_iconst (v := (1 : Int32)) hx hb dX12_areTwo_21 (by decide) ?_
        refine lv_goto (tgt := 26) hx hb dX12_areTwo_22 (by decide) ?_
        exact rZ X hI hr (by decide) (g_1 hm) hpm dX12_areTwo_26
abbrev rmX12_rests : Room := { frames := 3, cells := 0, slots := 0, locals := 74 }
abbrev cwX12_rests : Cond := .code yX12_rests cX12_rests 3 (some .int)
theorem cmX12_rests : cwX12_rests ∈ BIG := (tb8 (List.mem_of_getElem? (i := 108) rfl) rfl)
def fX12_rests (N : Nat) (x1 : Int32) (x2 : Int32) (m : Mem) : Option (Int32 × Mem) := (fX12_areTwo x1 x2 (mI m 99 0 (0 : Int32))).bind (fun q1 => if q1 = 0 then (some ((-1 : Int32), (mI m 99 0 (0 : Int32)))) else ((fX12_restOf N x1 x2 (-1 : Int32) (mI m 99 0 (0 : Int32))).bind (fun q4 => some (q4, (mI m 99 0 (0 : Int32))))))
set_option maxHeartbeats 4000000 in
set_option maxRecDepth 100000 in
theorem ctX12_rests {l : Launch} {D : va_G} {ca : Nat → ClassId} {ad : Nat → Nat} (N : Nat) (x1 : Int32) (x2 : Int32)  (hn : HNr ca) (m : Mem) (fin : (Int32 × Mem)) (hm : fX12_rests N x1 x2 m = some fin) : CI l D ca ad yX12_rests cwX12_rests rmX12_rests [.ref (ad 99), .int x1, .int x2] m fin.1 fin.2 := by
  refine start (by decide) (Nat.le_of_ble_eq_true rfl) ?_
  intro p e s mm args below meth c H locs ls X hI hr hl
  have X : CX p s mm args meth c cX12_rests 3 RX12 D ca ad (WA ca ad s.heap.size) := X
  have hx := X.1
  have hb := X.2.1
  have hl : lv_has ls 3 [(0, .ref (ad 99)), (1, .int x1), (2, .int x2)] := hl
  have hm : ((fX12_areTwo x1 x2 (mI m 99 0 (0 : Int32))).bind (fun q1 => if q1 = 0 then (some ((-1 : Int32), (mI m 99 0 (0 : Int32)))) else ((fX12_restOf N x1 x2 (-1 : Int32) (mI m 99 0 (0 : Int32))).bind (fun q4 => some (q4, (mI m 99 0 (0 : Int32))))))) = some fin := hm
  refine lv_aload_n hx hb dX12_rests_0 rfl (lv_at hl 0 rfl) ?_
  refine lv_iconst (v := (0 : Int32)) hx hb dX12_rests_1 (by decide) ?_
  refine pI X hI fpX12_154 (la_99 hn) dX12_rests_2 (fun H locs hI => ?_)
  refine lv_aload_n hx hb dX12_rests_5 rfl (lv_at hl 0 rfl) ?_
  refine lv_iload_n hx hb dX12_rests_6 rfl (lv_at hl 1 rfl) ?_
  refine lv_iload_n hx hb dX12_rests_7 rfl (lv_at hl 2 rfl) ?_
  obtain ⟨q1, h2, hm⟩ := g_b hm
  refine backI X hI (runV X hI (ctX12_areTwo x1 x2  hn _ _ h2 _) mdX12_472 (la_99 hn) rfl ⟨rfl, rfl⟩ ⟨Nat.le_of_ble_eq_true rfl, Nat.le_of_ble_eq_true rfl⟩ rfl hl.1 rfl (Nat.le_of_ble_eq_true rfl) dX12_rests_8) (fun H locs hI => ?_)
  refine lv_if_eq (tgt := 24) hx hb dX12_rests_11 (by decide) (fun c3 => ?_) (fun c3 => ?_)
  · have hm := g_t c3 hm
    refine lv_iconst (v := (-1 : Int32)) hx hb dX12_rests_24 (by decide) ?_
    exact rI X hI hr (g_p hm).1 (g_p hm).2 dX12_rests_25
  · have hm := g_f c3 hm
    refine lv_aload_n hx hb dX12_rests_14 rfl (lv_at hl 0 rfl) ?_
    refine lv_iload_n hx hb dX12_rests_15 rfl (lv_at hl 1 rfl) ?_
    refine lv_iload_n hx hb dX12_rests_16 rfl (lv_at hl 2 rfl) ?_
    refine lv_iconst (v := (-1 : Int32)) hx hb dX12_rests_17 (by decide) ?_
    obtain ⟨q4, h5, hm⟩ := g_b hm
    refine backI X hI (runV X hI (ctX12_restOf N x1 x2 (-1 : Int32)  hn _ _ h5 _) mdX12_475 (la_99 hn) rfl ⟨rfl, rfl⟩ ⟨Nat.le_of_ble_eq_true rfl, Nat.le_of_ble_eq_true rfl⟩ rfl hl.1 rfl (Nat.le_of_ble_eq_true rfl) dX12_rests_18) (fun H locs hI => ?_)
    refine lv_goto (tgt := 25) hx hb dX12_rests_21 (by decide) ?_
    exact rI X hI hr (g_p hm).1 (g_p hm).2 dX12_rests_25
abbrev rmX12_rest : Room := { frames := 3, cells := 0, slots := 0, locals := 74 }
abbrev cwX12_rest : Cond := .code yX12_rest cX12_rest 4 (some .int)
theorem cmX12_rest : cwX12_rest ∈ BIG := (tb8 (List.mem_of_getElem? (i := 128) rfl) rfl)
def fX12_rest (N : Nat) (x1 : Int32) (x2 : Int32) (x3 : Int32) (m : Mem) : Option (Int32 × Mem) := (fX12_areTwo x1 x2 (mI m 99 0 (0 : Int32))).bind (fun q1 => if q1 = 0 then (some ((-1 : Int32), (mI m 99 0 (0 : Int32)))) else (if x3 < 0 then (some ((-1 : Int32), (mI m 99 0 (0 : Int32)))) else ((fX12_restOf N x1 x2 x3 (mI m 99 0 (0 : Int32))).bind (fun q5 => some (q5, (mI m 99 0 (0 : Int32)))))))
set_option maxHeartbeats 4000000 in
set_option maxRecDepth 100000 in
theorem ctX12_rest {l : Launch} {D : va_G} {ca : Nat → ClassId} {ad : Nat → Nat} (N : Nat) (x1 : Int32) (x2 : Int32) (x3 : Int32)  (hn : HNr ca) (m : Mem) (fin : (Int32 × Mem)) (hm : fX12_rest N x1 x2 x3 m = some fin) : CI l D ca ad yX12_rest cwX12_rest rmX12_rest [.ref (ad 99), .int x1, .int x2, .int x3] m fin.1 fin.2 := by
  refine start (by decide) (Nat.le_of_ble_eq_true rfl) ?_
  intro p e s mm args below meth c H locs ls X hI hr hl
  have X : CX p s mm args meth c cX12_rest 4 RX12 D ca ad (WA ca ad s.heap.size) := X
  have hx := X.1
  have hb := X.2.1
  have hl : lv_has ls 4 [(0, .ref (ad 99)), (1, .int x1), (2, .int x2), (3, .int x3)] := hl
  have hm : ((fX12_areTwo x1 x2 (mI m 99 0 (0 : Int32))).bind (fun q1 => if q1 = 0 then (some ((-1 : Int32), (mI m 99 0 (0 : Int32)))) else (if x3 < 0 then (some ((-1 : Int32), (mI m 99 0 (0 : Int32)))) else ((fX12_restOf N x1 x2 x3 (mI m 99 0 (0 : Int32))).bind (fun q5 => some (q5, (mI m 99 0 (0 : Int32)))))))) = some fin := hm
  refine lv_aload_n hx hb dX12_rest_0 rfl (lv_at hl 0 rfl) ?_
  refine lv_iconst (v := (0 : Int32)) hx hb dX12_rest_1 (by decide) ?_
  refine pI X hI fpX12_154 (la_99 hn) dX12_rest_2 (fun H locs hI => ?_)
  refine lv_aload_n hx hb dX12_rest_5 rfl (lv_at hl 0 rfl) ?_
  refine lv_iload_n hx hb dX12_rest_6 rfl (lv_at hl 1 rfl) ?_
  refine lv_iload_n hx hb dX12_rest_7 rfl (lv_at hl 2 rfl) ?_
  obtain ⟨q1, h2, hm⟩ := g_b hm
  refine backI X hI (runV X hI (ctX12_areTwo x1 x2  hn _ _ h2 _) mdX12_472 (la_99 hn) rfl ⟨rfl, rfl⟩ ⟨Nat.le_of_ble_eq_true rfl, Nat.le_of_ble_eq_true rfl⟩ rfl hl.1 rfl (Nat.le_of_ble_eq_true rfl) dX12_rest_8) (fun H locs hI => ?_)
  refine lv_if_eq (tgt := 28) hx hb dX12_rest_11 (by decide) (fun c3 => ?_) (fun c3 => ?_)
  · have hm := g_t c3 hm
    refine lv_iconst (v := (-1 : Int32)) hx hb dX12_rest_28 (by decide) ?_
    exact rI X hI hr (g_p hm).1 (g_p hm).2 dX12_rest_29
  · have hm := g_f c3 hm
    refine lv_iload_n hx hb dX12_rest_14 rfl (lv_at hl 3 rfl) ?_
    refine lv_if_lt (tgt := 28) hx hb dX12_rest_15 (by decide) (fun c4 => ?_) (fun c4 => ?_)
    · have hm := g_t c4 hm
      refine lv_iconst (v := (-1 : Int32)) hx hb dX12_rest_28 (by decide) ?_
      exact rI X hI hr (g_p hm).1 (g_p hm).2 dX12_rest_29
    · have hm := g_f c4 hm
      refine lv_aload_n hx hb dX12_rest_18 rfl (lv_at hl 0 rfl) ?_
      refine lv_iload_n hx hb dX12_rest_19 rfl (lv_at hl 1 rfl) ?_
      refine lv_iload_n hx hb dX12_rest_20 rfl (lv_at hl 2 rfl) ?_
      refine lv_iload_n hx hb dX12_rest_21 rfl (lv_at hl 3 rfl) ?_
      obtain ⟨q5, h6, hm⟩ := g_b hm
      refine backI X hI (runV X hI (ctX12_restOf N x1 x2 x3  hn _ _ h6 _) mdX12_475 (la_99 hn) rfl ⟨rfl, rfl⟩ ⟨Nat.le_of_ble_eq_true rfl, Nat.le_of_ble_eq_true rfl⟩ rfl hl.1 rfl (Nat.le_of_ble_eq_true rfl) dX12_rest_22) (fun H locs hI => ?_)
      refine lv_goto (tgt := 29) hx hb dX12_rest_25 (by decide) ?_
      exact rI X hI hr (g_p hm).1 (g_p hm).2 dX12_rest_29
abbrev rmX12_steady : Room := { frames := 1, cells := 0, slots := 0, locals := 29 }
abbrev cwX12_steady : Cond := .code yX12_steady cX12_steady 9 (some .long)
theorem cmX12_steady : cwX12_steady ∈ BIG := (tb8 (List.mem_of_getElem? (i := 132) rfl) rfl)
def fX12_steady_36 (N : Nat) : Nat → Int32 → Int32 → Int64 → Int64 → Int32 → Mem → Option (Int64 × Mem)
  | 0, _, _, _, _, _, _ => none
  | n + 1, x1, x2, x3, x5, x7, m => if x1 ≤ x7 then ((fX12_common N x3 x5 m).bind (fun q6 => if x2 = 0 then (if q6 = 0 then none else (some ((x3 / q6), m))) else (if q6 = 0 then none else (some ((x5 / q6), m))))) else (fX12_steady_36 N n x1 x2 (x3 * ((100 : Int64) - (m.1 101 5).toInt64)) (x5 * (100 : Int64)) (x7 + (1 : Int32)) m)
set_option maxHeartbeats 4000000 in
set_option maxRecDepth 100000 in
theorem tX12_steady_36 (N : Nat) {l : Launch} {D : va_G} {ca : Nat → ClassId} {ad : Nat → Nat} {p : Program} {e : Env} {s : State} {mm : MethodId} {args : Array Value} {below : List Frame} {meth : Method} {c : Code}  (hn : HNr ca) (X : CX p s mm args meth c cX12_steady 9 RX12 D ca ad (WA ca ad s.heap.size)) (hr : meth.sig.returnType = (some .long)) (fin : (Int64 × Mem))  : ∀ (n : Nat) (x1 : Int32) (x2 : Int32) (x3 : Int64) (x5 : Int64) (x7 : Int32) (m : Mem) (H : Heap) (locs : List Loc) (ls : Array Slot), IW D ca ad (WA ca ad s.heap.size) s m H locs → lv_has ls 9 [(0, .ref (ad 99)), (1, .int x1), (2, .int x2), (3, .long x3), (5, .long x5), (7, .int x7)] → fX12_steady_36 N n x1 x2 x3 x5 x7 m = some fin → W p l e rmX12_steady s mm args below meth c H locs 0 0 (MQ below (QL D ca ad s.heap.size fin.1 fin.2) args s 0 0 (WA ca ad s.heap.size)) (F0 mm 36 ls []) := by
  have hx := X.1
  have hb := X.2.1
  intro n
  induction n with
  | zero => intro x1 x2 x3 x5 x7 m H locs ls hI hl hm
            exact absurd hm (by intro q; cases q)
  | succ n ih =>
    intro x1 x2 x3 x5 x7 m H locs ls hI hl hm
    have hm : (if x1 ≤ x7 then ((fX12_common N x3 x5 m).bind (fun q6 => if x2 = 0 then (if q6 = 0 then none else (some ((x3 / q6), m))) else (if q6 = 0 then none else (some ((x5 / q6), m))))) else (fX12_steady_36 N n x1 x2 (x3 * ((100 : Int64) - (m.1 101 5).toInt64)) (x5 * (100 : Int64)) (x7 + (1 : Int32)) m)) = some fin := hm
    refine lv_iload hx hb dX12_steady_36 (lv_at hl 5 rfl) ?_
    refine lv_iload_n hx hb dX12_steady_38 rfl (lv_at hl 1 rfl) ?_
    refine lv_icmp_ge (tgt := 70) hx hb dX12_steady_39 (by decide) (fun c5 => ?_) (fun c5 => ?_)
    · have hm := g_t c5 hm
      refine lv_lload_n hx hb dX12_steady_70 rfl (lv_at hl 3 rfl) ?_
      refine lv_lload hx hb dX12_steady_71 (lv_at hl 4 rfl) ?_
      obtain ⟨q6, h7, hm⟩ := g_b hm
      refine backL X hI (runS X hI (ctX12_common N x3 x5  hn _ _ h7 _) msX12_449 ⟨rfl, rfl⟩ ⟨Nat.le_of_ble_eq_true rfl, Nat.le_of_ble_eq_true rfl⟩ rfl hl.1 rfl (Nat.le_of_ble_eq_true rfl) dX12_steady_73) (fun H locs hI => ?_)
      refine lv_lstore (lv' := [(7, .long q6), (0, .ref (ad 99)), (1, .int x1), (2, .int x2), (3, .long x3), (5, .long x5)]) hx hb dX12_steady_76 hl (by decide) rfl (fun ls hl => ?_)
      refine lv_iload_n hx hb dX12_steady_78 rfl (lv_at hl 3 rfl) ?_
      refine lv_if_ne (tgt := 89) hx hb dX12_steady_79 (by decide) (fun c8 => ?_) (fun c8 => ?_)
      · have hm := g_f c8 hm
        refine lv_lload hx hb dX12_steady_89 (lv_at hl 5 rfl) ?_
        refine lv_lload hx hb dX12_steady_91 (lv_at hl 0 rfl) ?_
        obtain ⟨g9, hm⟩ := g_no hm
        refine lv_ldiv hx hb dX12_steady_93 g9 ?_
        exact rL X hI hr (g_p hm).1 (g_p hm).2 dX12_steady_94
      · have hm := g_t c8 hm
        refine lv_lload_n hx hb dX12_steady_82 rfl (lv_at hl 4 rfl) ?_
        refine lv_lload hx hb dX12_steady_83 (lv_at hl 0 rfl) ?_
        obtain ⟨g10, hm⟩ := g_no hm
        refine lv_ldiv hx hb dX12_steady_85 g10 ?_
        refine lv_goto (tgt := 94) hx hb dX12_steady_86 (by decide) ?_
        exact rL X hI hr (g_p hm).1 (g_p hm).2 dX12_steady_94
    · have hm := g_f c5 hm
      refine lv_lload_n hx hb dX12_steady_42 rfl (lv_at hl 3 rfl) ?_
      refine lv_ldc2 hx hb X.2.2.2.1 (X.2.2.2.2.1 _ kcX12_480) dX12_steady_43 ?_
      refine lv_aload_n hx hb dX12_steady_46 rfl (lv_at hl 0 rfl) ?_
      refine gR X hI fdX12_13 (la_99 hn) rf12_3 dX12_steady_47 ?_
      refine lv_iconst (v := (5 : Int32)) hx hb dX12_steady_50 (by decide) ?_
      refine aIc (j := 5) X hI (la_101 hn) (by decide) (by decide) dX12_steady_51 ?_
      refine lv_i2l hx hb dX12_steady_52 rfl ?_
      refine lv_lsub hx hb dX12_steady_53 ?_
      refine lv_lmul hx hb dX12_steady_54 ?_
      refine lv_lstore_n (lv' := [(3, .long (x3 * ((100 : Int64) - (m.1 101 5).toInt64))), (0, .ref (ad 99)), (1, .int x1), (2, .int x2), (5, .long x5), (7, .int x7)]) hx hb dX12_steady_55 rfl hl (by decide) rfl (fun ls hl => ?_)
      refine lv_lload hx hb dX12_steady_56 (lv_at hl 4 rfl) ?_
      refine lv_ldc2 hx hb X.2.2.2.1 (X.2.2.2.2.1 _ kcX12_480) dX12_steady_58 ?_
      refine lv_lmul hx hb dX12_steady_61 ?_
      refine lv_lstore (lv' := [(5, .long (x5 * (100 : Int64))), (3, .long (x3 * ((100 : Int64) - (m.1 101 5).toInt64))), (0, .ref (ad 99)), (1, .int x1), (2, .int x2), (7, .int x7)]) hx hb dX12_steady_62 hl (by decide) rfl (fun ls hl => ?_)
      refine lv_iinc (v := (x7 + (1 : Int32))) (lv' := [(7, .int (x7 + (1 : Int32))), (5, .long (x5 * (100 : Int64))), (3, .long (x3 * ((100 : Int64) - (m.1 101 5).toInt64))), (0, .ref (ad 99)), (1, .int x1), (2, .int x2)]) hx hb dX12_steady_64 hl (k := 5) rfl rfl (by decide) rfl (fun ls hl => ?_)
      refine lv_goto (tgt := 36) hx hb dX12_steady_67 (by decide) ?_
      exact ih x1 x2 (x3 * ((100 : Int64) - (m.1 101 5).toInt64)) (x5 * (100 : Int64)) (x7 + (1 : Int32)) m H locs ls hI (lv_sub hl [3, 4, 5, 2, 1, 0] rfl) hm
def fX12_steady (N : Nat) (x1 : Int32) (x2 : Int32) (m : Mem) : Option (Int64 × Mem) := if x1 < 0 then (some ((-1 : Int64), (mI m 99 0 (0 : Int32)))) else (if (6 : Int32) < x1 then (some ((-1 : Int64), (mI m 99 0 (0 : Int32)))) else (if x2 < 0 then (some ((-1 : Int64), (mI m 99 0 (0 : Int32)))) else (if x2 ≤ (1 : Int32) then (fX12_steady_36 N N x1 x2 (1 : Int64) (1 : Int64) (0 : Int32) (mI m 99 0 (0 : Int32))) else (some ((-1 : Int64), (mI m 99 0 (0 : Int32)))))))
set_option maxHeartbeats 4000000 in
set_option maxRecDepth 100000 in
theorem ctX12_steady {l : Launch} {D : va_G} {ca : Nat → ClassId} {ad : Nat → Nat} (N : Nat) (x1 : Int32) (x2 : Int32)  (hn : HNr ca) (m : Mem) (fin : (Int64 × Mem)) (hm : fX12_steady N x1 x2 m = some fin) : CL l D ca ad yX12_steady cwX12_steady rmX12_steady [.ref (ad 99), .int x1, .int x2] m fin.1 fin.2 := by
  refine start (by decide) (Nat.le_of_ble_eq_true rfl) ?_
  intro p e s mm args below meth c H locs ls X hI hr hl
  have X : CX p s mm args meth c cX12_steady 9 RX12 D ca ad (WA ca ad s.heap.size) := X
  have hx := X.1
  have hb := X.2.1
  have hl : lv_has ls 9 [(0, .ref (ad 99)), (1, .int x1), (2, .int x2)] := hl
  have hm : (if x1 < 0 then (some ((-1 : Int64), (mI m 99 0 (0 : Int32)))) else (if (6 : Int32) < x1 then (some ((-1 : Int64), (mI m 99 0 (0 : Int32)))) else (if x2 < 0 then (some ((-1 : Int64), (mI m 99 0 (0 : Int32)))) else (if x2 ≤ (1 : Int32) then (fX12_steady_36 N N x1 x2 (1 : Int64) (1 : Int64) (0 : Int32) (mI m 99 0 (0 : Int32))) else (some ((-1 : Int64), (mI m 99 0 (0 : Int32)))))))) = some fin := hm
  refine lv_aload_n hx hb dX12_steady_0 rfl (lv_at hl 0 rfl) ?_
  refine lv_iconst (v := (0 : Int32)) hx hb dX12_steady_1 (by decide) ?_
  refine pI X hI fpX12_154 (la_99 hn) dX12_steady_2 (fun H locs hI => ?_)
  refine lv_iload_n hx hb dX12_steady_5 rfl (lv_at hl 1 rfl) ?_
  refine lv_if_lt (tgt := 24) hx hb dX12_steady_6 (by decide) (fun c1 => ?_) (fun c1 => ?_)
  · have hm := g_t c1 hm
    refine lv_ldc2 hx hb X.2.2.2.1 (X.2.2.2.2.1 _ kcX12_478) dX12_steady_24 ?_
    exact rL X hI hr (g_p hm).1 (g_p hm).2 dX12_steady_27
  · have hm := g_f c1 hm
    refine lv_iload_n hx hb dX12_steady_9 rfl (lv_at hl 1 rfl) ?_
    refine lv_bipush (v := (6 : Int32)) hx hb dX12_steady_10 (by decide) ?_
    refine lv_icmp_gt (tgt := 24) hx hb dX12_steady_12 (by decide) (fun c2 => ?_) (fun c2 => ?_)
    · have hm := g_t c2 hm
      refine lv_ldc2 hx hb X.2.2.2.1 (X.2.2.2.2.1 _ kcX12_478) dX12_steady_24 ?_
      exact rL X hI hr (g_p hm).1 (g_p hm).2 dX12_steady_27
    · have hm := g_f c2 hm
      refine lv_iload_n hx hb dX12_steady_15 rfl (lv_at hl 2 rfl) ?_
      refine lv_if_lt (tgt := 24) hx hb dX12_steady_16 (by decide) (fun c3 => ?_) (fun c3 => ?_)
      · have hm := g_t c3 hm
        refine lv_ldc2 hx hb X.2.2.2.1 (X.2.2.2.2.1 _ kcX12_478) dX12_steady_24 ?_
        exact rL X hI hr (g_p hm).1 (g_p hm).2 dX12_steady_27
      · have hm := g_f c3 hm
        refine lv_iload_n hx hb dX12_steady_19 rfl (lv_at hl 2 rfl) ?_
        refine lv_iconst (v := (1 : Int32)) hx hb dX12_steady_20 (by decide) ?_
        refine lv_icmp_le (tgt := 28) hx hb dX12_steady_21 (by decide) (fun c4 => ?_) (fun c4 => ?_)
        · have hm := g_t c4 hm
          refine lv_lconst (v := (1 : Int64)) hx hb dX12_steady_28 (by decide) ?_
          refine lv_lstore_n (lv' := [(3, .long (1 : Int64)), (0, .ref (ad 99)), (1, .int x1), (2, .int x2)]) hx hb dX12_steady_29 rfl hl (by decide) rfl (fun ls hl => ?_)
          refine lv_lconst (v := (1 : Int64)) hx hb dX12_steady_30 (by decide) ?_
          refine lv_lstore (lv' := [(5, .long (1 : Int64)), (3, .long (1 : Int64)), (0, .ref (ad 99)), (1, .int x1), (2, .int x2)]) hx hb dX12_steady_31 hl (by decide) rfl (fun ls hl => ?_)
          refine lv_iconst (v := (0 : Int32)) hx hb dX12_steady_33 (by decide) ?_
          refine lv_istore (lv' := [(7, .int (0 : Int32)), (5, .long (1 : Int64)), (3, .long (1 : Int64)), (0, .ref (ad 99)), (1, .int x1), (2, .int x2)]) hx hb dX12_steady_34 hl (by decide) rfl (fun ls hl => ?_)
          exact tX12_steady_36 N hn X hr fin  N x1 x2 (1 : Int64) (1 : Int64) (0 : Int32) (mI m 99 0 (0 : Int32)) H locs ls hI (lv_sub hl [3, 4, 5, 2, 1, 0] rfl) hm
        · have hm := g_f c4 hm
          refine lv_ldc2 hx hb X.2.2.2.1 (X.2.2.2.2.1 _ kcX12_478) dX12_steady_24 ?_
          exact rL X hI hr (g_p hm).1 (g_p hm).2 dX12_steady_27
abbrev rmX12_see : Room := { frames := 1, cells := 0, slots := 0, locals := 21 }
abbrev cwX12_see : Cond := .code yX12_see cX12_see 5 (some .int)
theorem cmX12_see : cwX12_see ∈ BIG := (tb8 (List.mem_of_getElem? (i := 138) rfl) rfl)
def fX12_see  (x1 : Int32) (x2 : Int32) (x3 : Int32) (x4 : Int32) (m : Mem) : Option (Int32 × Mem) := if x1 < (1 : Int32) then (some ((-1 : Int32), (mI m 99 0 (0 : Int32)))) else (if (60 : Int32) < x1 then (some ((-1 : Int32), (mI m 99 0 (0 : Int32)))) else ((fX12_isKnight x2 (mI m 99 0 (0 : Int32))).bind (fun q3 => if q3 = 0 then (some ((-1 : Int32), (mI m 99 0 (0 : Int32)))) else (if x3 < 0 then (some ((-1 : Int32), (mI m 99 0 (0 : Int32)))) else (if (99 : Int32) < x3 then (some ((-1 : Int32), (mI m 99 0 (0 : Int32)))) else (if ((mI m 99 0 (0 : Int32)).1 99 58) = (24 : Int32) then (some ((-1 : Int32), (mI m 99 0 (0 : Int32)))) else (if ((mI m 99 0 (0 : Int32)).1 99 58) < 0 ∨ 24 ≤ ((mI m 99 0 (0 : Int32)).1 99 58).toNatClampNeg then none else (if ((mI (mI m 99 0 (0 : Int32)) 136 ((mI m 99 0 (0 : Int32)).1 99 58).toNatClampNeg x1).1 99 58) < 0 ∨ 24 ≤ ((mI (mI m 99 0 (0 : Int32)) 136 ((mI m 99 0 (0 : Int32)).1 99 58).toNatClampNeg x1).1 99 58).toNatClampNeg then none else (if ((mI (mI (mI m 99 0 (0 : Int32)) 136 ((mI m 99 0 (0 : Int32)).1 99 58).toNatClampNeg x1) 137 ((mI (mI m 99 0 (0 : Int32)) 136 ((mI m 99 0 (0 : Int32)).1 99 58).toNatClampNeg x1).1 99 58).toNatClampNeg x2).1 99 58) < 0 ∨ 24 ≤ ((mI (mI (mI m 99 0 (0 : Int32)) 136 ((mI m 99 0 (0 : Int32)).1 99 58).toNatClampNeg x1) 137 ((mI (mI m 99 0 (0 : Int32)) 136 ((mI m 99 0 (0 : Int32)).1 99 58).toNatClampNeg x1).1 99 58).toNatClampNeg x2).1 99 58).toNatClampNeg then none else (if ((mI (mI (mI (mI m 99 0 (0 : Int32)) 136 ((mI m 99 0 (0 : Int32)).1 99 58).toNatClampNeg x1) 137 ((mI (mI m 99 0 (0 : Int32)) 136 ((mI m 99 0 (0 : Int32)).1 99 58).toNatClampNeg x1).1 99 58).toNatClampNeg x2) 138 ((mI (mI (mI m 99 0 (0 : Int32)) 136 ((mI m 99 0 (0 : Int32)).1 99 58).toNatClampNeg x1) 137 ((mI (mI m 99 0 (0 : Int32)) 136 ((mI m 99 0 (0 : Int32)).1 99 58).toNatClampNeg x1).1 99 58).toNatClampNeg x2).1 99 58).toNatClampNeg x3).1 99 58) < 0 ∨ 24 ≤ ((mI (mI (mI (mI m 99 0 (0 : Int32)) 136 ((mI m 99 0 (0 : Int32)).1 99 58).toNatClampNeg x1) 137 ((mI (mI m 99 0 (0 : Int32)) 136 ((mI m 99 0 (0 : Int32)).1 99 58).toNatClampNeg x1).1 99 58).toNatClampNeg x2) 138 ((mI (mI (mI m 99 0 (0 : Int32)) 136 ((mI m 99 0 (0 : Int32)).1 99 58).toNatClampNeg x1) 137 ((mI (mI m 99 0 (0 : Int32)) 136 ((mI m 99 0 (0 : Int32)).1 99 58).toNatClampNeg x1).1 99 58).toNatClampNeg x2).1 99 58).toNatClampNeg x3).1 99 58).toNatClampNeg then none else (if ((mI (mI (mI (mI (mI m 99 0 (0 : Int32)) 136 ((mI m 99 0 (0 : Int32)).1 99 58).toNatClampNeg x1) 137 ((mI (mI m 99 0 (0 : Int32)) 136 ((mI m 99 0 (0 : Int32)).1 99 58).toNatClampNeg x1).1 99 58).toNatClampNeg x2) 138 ((mI (mI (mI m 99 0 (0 : Int32)) 136 ((mI m 99 0 (0 : Int32)).1 99 58).toNatClampNeg x1) 137 ((mI (mI m 99 0 (0 : Int32)) 136 ((mI m 99 0 (0 : Int32)).1 99 58).toNatClampNeg x1).1 99 58).toNatClampNeg x2).1 99 58).toNatClampNeg x3) 139 ((mI (mI (mI (mI m 99 0 (0 : Int32)) 136 ((mI m 99 0 (0 : Int32)).1 99 58).toNatClampNeg x1) 137 ((mI (mI m 99 0 (0 : Int32)) 136 ((mI m 99 0 (0 : Int32)).1 99 58).toNatClampNeg x1).1 99 58).toNatClampNeg x2) 138 ((mI (mI (mI m 99 0 (0 : Int32)) 136 ((mI m 99 0 (0 : Int32)).1 99 58).toNatClampNeg x1) 137 ((mI (mI m 99 0 (0 : Int32)) 136 ((mI m 99 0 (0 : Int32)).1 99 58).toNatClampNeg x1).1 99 58).toNatClampNeg x2).1 99 58).toNatClampNeg x3).1 99 58).toNatClampNeg (vp_nar .boolean x4)).1 99 58) < 0 ∨ 24 ≤ ((mI (mI (mI (mI (mI m 99 0 (0 : Int32)) 136 ((mI m 99 0 (0 : Int32)).1 99 58).toNatClampNeg x1) 137 ((mI (mI m 99 0 (0 : Int32)) 136 ((mI m 99 0 (0 : Int32)).1 99 58).toNatClampNeg x1).1 99 58).toNatClampNeg x2) 138 ((mI (mI (mI m 99 0 (0 : Int32)) 136 ((mI m 99 0 (0 : Int32)).1 99 58).toNatClampNeg x1) 137 ((mI (mI m 99 0 (0 : Int32)) 136 ((mI m 99 0 (0 : Int32)).1 99 58).toNatClampNeg x1).1 99 58).toNatClampNeg x2).1 99 58).toNatClampNeg x3) 139 ((mI (mI (mI (mI m 99 0 (0 : Int32)) 136 ((mI m 99 0 (0 : Int32)).1 99 58).toNatClampNeg x1) 137 ((mI (mI m 99 0 (0 : Int32)) 136 ((mI m 99 0 (0 : Int32)).1 99 58).toNatClampNeg x1).1 99 58).toNatClampNeg x2) 138 ((mI (mI (mI m 99 0 (0 : Int32)) 136 ((mI m 99 0 (0 : Int32)).1 99 58).toNatClampNeg x1) 137 ((mI (mI m 99 0 (0 : Int32)) 136 ((mI m 99 0 (0 : Int32)).1 99 58).toNatClampNeg x1).1 99 58).toNatClampNeg x2).1 99 58).toNatClampNeg x3).1 99 58).toNatClampNeg (vp_nar .boolean x4)).1 99 58).toNatClampNeg then none else (some ((((mI (mI (mI (mI (mI (mI (mI m 99 0 (0 : Int32)) 136 ((mI m 99 0 (0 : Int32)).1 99 58).toNatClampNeg x1) 137 ((mI (mI m 99 0 (0 : Int32)) 136 ((mI m 99 0 (0 : Int32)).1 99 58).toNatClampNeg x1).1 99 58).toNatClampNeg x2) 138 ((mI (mI (mI m 99 0 (0 : Int32)) 136 ((mI m 99 0 (0 : Int32)).1 99 58).toNatClampNeg x1) 137 ((mI (mI m 99 0 (0 : Int32)) 136 ((mI m 99 0 (0 : Int32)).1 99 58).toNatClampNeg x1).1 99 58).toNatClampNeg x2).1 99 58).toNatClampNeg x3) 139 ((mI (mI (mI (mI m 99 0 (0 : Int32)) 136 ((mI m 99 0 (0 : Int32)).1 99 58).toNatClampNeg x1) 137 ((mI (mI m 99 0 (0 : Int32)) 136 ((mI m 99 0 (0 : Int32)).1 99 58).toNatClampNeg x1).1 99 58).toNatClampNeg x2) 138 ((mI (mI (mI m 99 0 (0 : Int32)) 136 ((mI m 99 0 (0 : Int32)).1 99 58).toNatClampNeg x1) 137 ((mI (mI m 99 0 (0 : Int32)) 136 ((mI m 99 0 (0 : Int32)).1 99 58).toNatClampNeg x1).1 99 58).toNatClampNeg x2).1 99 58).toNatClampNeg x3).1 99 58).toNatClampNeg (vp_nar .boolean x4)) 140 ((mI (mI (mI (mI (mI m 99 0 (0 : Int32)) 136 ((mI m 99 0 (0 : Int32)).1 99 58).toNatClampNeg x1) 137 ((mI (mI m 99 0 (0 : Int32)) 136 ((mI m 99 0 (0 : Int32)).1 99 58).toNatClampNeg x1).1 99 58).toNatClampNeg x2) 138 ((mI (mI (mI m 99 0 (0 : Int32)) 136 ((mI m 99 0 (0 : Int32)).1 99 58).toNatClampNeg x1) 137 ((mI (mI m 99 0 (0 : Int32)) 136 ((mI m 99 0 (0 : Int32)).1 99 58).toNatClampNeg x1).1 99 58).toNatClampNeg x2).1 99 58).toNatClampNeg x3) 139 ((mI (mI (mI (mI m 99 0 (0 : Int32)) 136 ((mI m 99 0 (0 : Int32)).1 99 58).toNatClampNeg x1) 137 ((mI (mI m 99 0 (0 : Int32)) 136 ((mI m 99 0 (0 : Int32)).1 99 58).toNatClampNeg x1).1 99 58).toNatClampNeg x2) 138 ((mI (mI (mI m 99 0 (0 : Int32)) 136 ((mI m 99 0 (0 : Int32)).1 99 58).toNatClampNeg x1) 137 ((mI (mI m 99 0 (0 : Int32)) 136 ((mI m 99 0 (0 : Int32)).1 99 58).toNatClampNeg x1).1 99 58).toNatClampNeg x2).1 99 58).toNatClampNeg x3).1 99 58).toNatClampNeg (vp_nar .boolean x4)).1 99 58).toNatClampNeg (-1 : Int32)) 99 58 (((mI (mI (mI (mI (mI (mI m 99 0 (0 : Int32)) 136 ((mI m 99 0 (0 : Int32)).1 99 58).toNatClampNeg x1) 137 ((mI (mI m 99 0 (0 : Int32)) 136 ((mI m 99 0 (0 : Int32)).1 99 58).toNatClampNeg x1).1 99 58).toNatClampNeg x2) 138 ((mI (mI (mI m 99 0 (0 : Int32)) 136 ((mI m 99 0 (0 : Int32)).1 99 58).toNatClampNeg x1) 137 ((mI (mI m 99 0 (0 : Int32)) 136 ((mI m 99 0 (0 : Int32)).1 99 58).toNatClampNeg x1).1 99 58).toNatClampNeg x2).1 99 58).toNatClampNeg x3) 139 ((mI (mI (mI (mI m 99 0 (0 : Int32)) 136 ((mI m 99 0 (0 : Int32)).1 99 58).toNatClampNeg x1) 137 ((mI (mI m 99 0 (0 : Int32)) 136 ((mI m 99 0 (0 : Int32)).1 99 58).toNatClampNeg x1).1 99 58).toNatClampNeg x2) 138 ((mI (mI (mI m 99 0 (0 : Int32)) 136 ((mI m 99 0 (0 : Int32)).1 99 58).toNatClampNeg x1) 137 ((mI (mI m 99 0 (0 : Int32)) 136 ((mI m 99 0 (0 : Int32)).1 99 58).toNatClampNeg x1).1 99 58).toNatClampNeg x2).1 99 58).toNatClampNeg x3).1 99 58).toNatClampNeg (vp_nar .boolean x4)) 140 ((mI (mI (mI (mI (mI m 99 0 (0 : Int32)) 136 ((mI m 99 0 (0 : Int32)).1 99 58).toNatClampNeg x1) 137 ((mI (mI m 99 0 (0 : Int32)) 136 ((mI m 99 0 (0 : Int32)).1 99 58).toNatClampNeg x1).1 99 58).toNatClampNeg x2) 138 ((mI (mI (mI m 99 0 (0 : Int32)) 136 ((mI m 99 0 (0 : Int32)).1 99 58).toNatClampNeg x1) 137 ((mI (mI m 99 0 (0 : Int32)) 136 ((mI m 99 0 (0 : Int32)).1 99 58).toNatClampNeg x1).1 99 58).toNatClampNeg x2).1 99 58).toNatClampNeg x3) 139 ((mI (mI (mI (mI m 99 0 (0 : Int32)) 136 ((mI m 99 0 (0 : Int32)).1 99 58).toNatClampNeg x1) 137 ((mI (mI m 99 0 (0 : Int32)) 136 ((mI m 99 0 (0 : Int32)).1 99 58).toNatClampNeg x1).1 99 58).toNatClampNeg x2) 138 ((mI (mI (mI m 99 0 (0 : Int32)) 136 ((mI m 99 0 (0 : Int32)).1 99 58).toNatClampNeg x1) 137 ((mI (mI m 99 0 (0 : Int32)) 136 ((mI m 99 0 (0 : Int32)).1 99 58).toNatClampNeg x1).1 99 58).toNatClampNeg x2).1 99 58).toNatClampNeg x3).1 99 58).toNatClampNeg (vp_nar .boolean x4)).1 99 58).toNatClampNeg (-1 : Int32)).1 99 58) + (1 : Int32))).1 99 58) - (1 : Int32)), (mI (mI (mI (mI (mI (mI (mI m 99 0 (0 : Int32)) 136 ((mI m 99 0 (0 : Int32)).1 99 58).toNatClampNeg x1) 137 ((mI (mI m 99 0 (0 : Int32)) 136 ((mI m 99 0 (0 : Int32)).1 99 58).toNatClampNeg x1).1 99 58).toNatClampNeg x2) 138 ((mI (mI (mI m 99 0 (0 : Int32)) 136 ((mI m 99 0 (0 : Int32)).1 99 58).toNatClampNeg x1) 137 ((mI (mI m 99 0 (0 : Int32)) 136 ((mI m 99 0 (0 : Int32)).1 99 58).toNatClampNeg x1).1 99 58).toNatClampNeg x2).1 99 58).toNatClampNeg x3) 139 ((mI (mI (mI (mI m 99 0 (0 : Int32)) 136 ((mI m 99 0 (0 : Int32)).1 99 58).toNatClampNeg x1) 137 ((mI (mI m 99 0 (0 : Int32)) 136 ((mI m 99 0 (0 : Int32)).1 99 58).toNatClampNeg x1).1 99 58).toNatClampNeg x2) 138 ((mI (mI (mI m 99 0 (0 : Int32)) 136 ((mI m 99 0 (0 : Int32)).1 99 58).toNatClampNeg x1) 137 ((mI (mI m 99 0 (0 : Int32)) 136 ((mI m 99 0 (0 : Int32)).1 99 58).toNatClampNeg x1).1 99 58).toNatClampNeg x2).1 99 58).toNatClampNeg x3).1 99 58).toNatClampNeg (vp_nar .boolean x4)) 140 ((mI (mI (mI (mI (mI m 99 0 (0 : Int32)) 136 ((mI m 99 0 (0 : Int32)).1 99 58).toNatClampNeg x1) 137 ((mI (mI m 99 0 (0 : Int32)) 136 ((mI m 99 0 (0 : Int32)).1 99 58).toNatClampNeg x1).1 99 58).toNatClampNeg x2) 138 ((mI (mI (mI m 99 0 (0 : Int32)) 136 ((mI m 99 0 (0 : Int32)).1 99 58).toNatClampNeg x1) 137 ((mI (mI m 99 0 (0 : Int32)) 136 ((mI m 99 0 (0 : Int32)).1 99 58).toNatClampNeg x1).1 99 58).toNatClampNeg x2).1 99 58).toNatClampNeg x3) 139 ((mI (mI (mI (mI m 99 0 (0 : Int32)) 136 ((mI m 99 0 (0 : Int32)).1 99 58).toNatClampNeg x1) 137 ((mI (mI m 99 0 (0 : Int32)) 136 ((mI m 99 0 (0 : Int32)).1 99 58).toNatClampNeg x1).1 99 58).toNatClampNeg x2) 138 ((mI (mI (mI m 99 0 (0 : Int32)) 136 ((mI m 99 0 (0 : Int32)).1 99 58).toNatClampNeg x1) 137 ((mI (mI m 99 0 (0 : Int32)) 136 ((mI m 99 0 (0 : Int32)).1 99 58).toNatClampNeg x1).1 99 58).toNatClampNeg x2).1 99 58).toNatClampNeg x3).1 99 58).toNatClampNeg (vp_nar .boolean x4)).1 99 58).toNatClampNeg (-1 : Int32)) 99 58 (((mI (mI (mI (mI (mI (mI m 99 0 (0 : Int32)) 136 ((mI m 99 0 (0 : Int32)).1 99 58).toNatClampNeg x1) 137 ((mI (mI m 99 0 (0 : Int32)) 136 ((mI m 99 0 (0 : Int32)).1 99 58).toNatClampNeg x1).1 99 58).toNatClampNeg x2) 138 ((mI (mI (mI m 99 0 (0 : Int32)) 136 ((mI m 99 0 (0 : Int32)).1 99 58).toNatClampNeg x1) 137 ((mI (mI m 99 0 (0 : Int32)) 136 ((mI m 99 0 (0 : Int32)).1 99 58).toNatClampNeg x1).1 99 58).toNatClampNeg x2).1 99 58).toNatClampNeg x3) 139 ((mI (mI (mI (mI m 99 0 (0 : Int32)) 136 ((mI m 99 0 (0 : Int32)).1 99 58).toNatClampNeg x1) 137 ((mI (mI m 99 0 (0 : Int32)) 136 ((mI m 99 0 (0 : Int32)).1 99 58).toNatClampNeg x1).1 99 58).toNatClampNeg x2) 138 ((mI (mI (mI m 99 0 (0 : Int32)) 136 ((mI m 99 0 (0 : Int32)).1 99 58).toNatClampNeg x1) 137 ((mI (mI m 99 0 (0 : Int32)) 136 ((mI m 99 0 (0 : Int32)).1 99 58).toNatClampNeg x1).1 99 58).toNatClampNeg x2).1 99 58).toNatClampNeg x3).1 99 58).toNatClampNeg (vp_nar .boolean x4)) 140 ((mI (mI (mI (mI (mI m 99 0 (0 : Int32)) 136 ((mI m 99 0 (0 : Int32)).1 99 58).toNatClampNeg x1) 137 ((mI (mI m 99 0 (0 : Int32)) 136 ((mI m 99 0 (0 : Int32)).1 99 58).toNatClampNeg x1).1 99 58).toNatClampNeg x2) 138 ((mI (mI (mI m 99 0 (0 : Int32)) 136 ((mI m 99 0 (0 : Int32)).1 99 58).toNatClampNeg x1) 137 ((mI (mI m 99 0 (0 : Int32)) 136 ((mI m 99 0 (0 : Int32)).1 99 58).toNatClampNeg x1).1 99 58).toNatClampNeg x2).1 99 58).toNatClampNeg x3) 139 ((mI (mI (mI (mI m 99 0 (0 : Int32)) 136 ((mI m 99 0 (0 : Int32)).1 99 58).toNatClampNeg x1) 137 ((mI (mI m 99 0 (0 : Int32)) 136 ((mI m 99 0 (0 : Int32)).1 99 58).toNatClampNeg x1).1 99 58).toNatClampNeg x2) 138 ((mI (mI (mI m 99 0 (0 : Int32)) 136 ((mI m 99 0 (0 : Int32)).1 99 58).toNatClampNeg x1) 137 ((mI (mI m 99 0 (0 : Int32)) 136 ((mI m 99 0 (0 : Int32)).1 99 58).toNatClampNeg x1).1 99 58).toNatClampNeg x2).1 99 58).toNatClampNeg x3).1 99 58).toNatClampNeg (vp_nar .boolean x4)).1 99 58).toNatClampNeg (-1 : Int32)).1 99 58) + (1 : Int32))))))))))))))))
set_option maxHeartbeats 4000000 in
set_option maxRecDepth 100000 in
theorem ctX12_see {l : Launch} {D : va_G} {ca : Nat → ClassId} {ad : Nat → Nat}  (x1 : Int32) (x2 : Int32) (x3 : Int32) (x4 : Int32)  (hn : HNr ca) (m : Mem) (fin : (Int32 × Mem)) (hm : fX12_see x1 x2 x3 x4 m = some fin) : CI l D ca ad yX12_see cwX12_see rmX12_see [.ref (ad 99), .int x1, .int x2, .int x3, .int x4] m fin.1 fin.2 := by
  refine start (by decide) (Nat.le_of_ble_eq_true rfl) ?_
  intro p e s mm args below meth c H locs ls X hI hr hl
  have X : CX p s mm args meth c cX12_see 5 RX12 D ca ad (WA ca ad s.heap.size) := X
  have hx := X.1
  have hb := X.2.1
  have hl : lv_has ls 5 [(0, .ref (ad 99)), (1, .int x1), (2, .int x2), (3, .int x3), (4, .int x4)] := hl
  have hm : (if x1 < (1 : Int32) then (some ((-1 : Int32), (mI m 99 0 (0 : Int32)))) else (if (60 : Int32) < x1 then (some ((-1 : Int32), (mI m 99 0 (0 : Int32)))) else ((fX12_isKnight x2 (mI m 99 0 (0 : Int32))).bind (fun q3 => if q3 = 0 then (some ((-1 : Int32), (mI m 99 0 (0 : Int32)))) else (if x3 < 0 then (some ((-1 : Int32), (mI m 99 0 (0 : Int32)))) else (if (99 : Int32) < x3 then (some ((-1 : Int32), (mI m 99 0 (0 : Int32)))) else (if ((mI m 99 0 (0 : Int32)).1 99 58) = (24 : Int32) then (some ((-1 : Int32), (mI m 99 0 (0 : Int32)))) else (if ((mI m 99 0 (0 : Int32)).1 99 58) < 0 ∨ 24 ≤ ((mI m 99 0 (0 : Int32)).1 99 58).toNatClampNeg then none else (if ((mI (mI m 99 0 (0 : Int32)) 136 ((mI m 99 0 (0 : Int32)).1 99 58).toNatClampNeg x1).1 99 58) < 0 ∨ 24 ≤ ((mI (mI m 99 0 (0 : Int32)) 136 ((mI m 99 0 (0 : Int32)).1 99 58).toNatClampNeg x1).1 99 58).toNatClampNeg then none else (if ((mI (mI (mI m 99 0 (0 : Int32)) 136 ((mI m 99 0 (0 : Int32)).1 99 58).toNatClampNeg x1) 137 ((mI (mI m 99 0 (0 : Int32)) 136 ((mI m 99 0 (0 : Int32)).1 99 58).toNatClampNeg x1).1 99 58).toNatClampNeg x2).1 99 58) < 0 ∨ 24 ≤ ((mI (mI (mI m 99 0 (0 : Int32)) 136 ((mI m 99 0 (0 : Int32)).1 99 58).toNatClampNeg x1) 137 ((mI (mI m 99 0 (0 : Int32)) 136 ((mI m 99 0 (0 : Int32)).1 99 58).toNatClampNeg x1).1 99 58).toNatClampNeg x2).1 99 58).toNatClampNeg then none else (if ((mI (mI (mI (mI m 99 0 (0 : Int32)) 136 ((mI m 99 0 (0 : Int32)).1 99 58).toNatClampNeg x1) 137 ((mI (mI m 99 0 (0 : Int32)) 136 ((mI m 99 0 (0 : Int32)).1 99 58).toNatClampNeg x1).1 99 58).toNatClampNeg x2) 138 ((mI (mI (mI m 99 0 (0 : Int32)) 136 ((mI m 99 0 (0 : Int32)).1 99 58).toNatClampNeg x1) 137 ((mI (mI m 99 0 (0 : Int32)) 136 ((mI m 99 0 (0 : Int32)).1 99 58).toNatClampNeg x1).1 99 58).toNatClampNeg x2).1 99 58).toNatClampNeg x3).1 99 58) < 0 ∨ 24 ≤ ((mI (mI (mI (mI m 99 0 (0 : Int32)) 136 ((mI m 99 0 (0 : Int32)).1 99 58).toNatClampNeg x1) 137 ((mI (mI m 99 0 (0 : Int32)) 136 ((mI m 99 0 (0 : Int32)).1 99 58).toNatClampNeg x1).1 99 58).toNatClampNeg x2) 138 ((mI (mI (mI m 99 0 (0 : Int32)) 136 ((mI m 99 0 (0 : Int32)).1 99 58).toNatClampNeg x1) 137 ((mI (mI m 99 0 (0 : Int32)) 136 ((mI m 99 0 (0 : Int32)).1 99 58).toNatClampNeg x1).1 99 58).toNatClampNeg x2).1 99 58).toNatClampNeg x3).1 99 58).toNatClampNeg then none else (if ((mI (mI (mI (mI (mI m 99 0 (0 : Int32)) 136 ((mI m 99 0 (0 : Int32)).1 99 58).toNatClampNeg x1) 137 ((mI (mI m 99 0 (0 : Int32)) 136 ((mI m 99 0 (0 : Int32)).1 99 58).toNatClampNeg x1).1 99 58).toNatClampNeg x2) 138 ((mI (mI (mI m 99 0 (0 : Int32)) 136 ((mI m 99 0 (0 : Int32)).1 99 58).toNatClampNeg x1) 137 ((mI (mI m 99 0 (0 : Int32)) 136 ((mI m 99 0 (0 : Int32)).1 99 58).toNatClampNeg x1).1 99 58).toNatClampNeg x2).1 99 58).toNatClampNeg x3) 139 ((mI (mI (mI (mI m 99 0 (0 : Int32)) 136 ((mI m 99 0 (0 : Int32)).1 99 58).toNatClampNeg x1) 137 ((mI (mI m 99 0 (0 : Int32)) 136 ((mI m 99 0 (0 : Int32)).1 99 58).toNatClampNeg x1).1 99 58).toNatClampNeg x2) 138 ((mI (mI (mI m 99 0 (0 : Int32)) 136 ((mI m 99 0 (0 : Int32)).1 99 58).toNatClampNeg x1) 137 ((mI (mI m 99 0 (0 : Int32)) 136 ((mI m 99 0 (0 : Int32)).1 99 58).toNatClampNeg x1).1 99 58).toNatClampNeg x2).1 99 58).toNatClampNeg x3).1 99 58).toNatClampNeg (vp_nar .boolean x4)).1 99 58) < 0 ∨ 24 ≤ ((mI (mI (mI (mI (mI m 99 0 (0 : Int32)) 136 ((mI m 99 0 (0 : Int32)).1 99 58).toNatClampNeg x1) 137 ((mI (mI m 99 0 (0 : Int32)) 136 ((mI m 99 0 (0 : Int32)).1 99 58).toNatClampNeg x1).1 99 58).toNatClampNeg x2) 138 ((mI (mI (mI m 99 0 (0 : Int32)) 136 ((mI m 99 0 (0 : Int32)).1 99 58).toNatClampNeg x1) 137 ((mI (mI m 99 0 (0 : Int32)) 136 ((mI m 99 0 (0 : Int32)).1 99 58).toNatClampNeg x1).1 99 58).toNatClampNeg x2).1 99 58).toNatClampNeg x3) 139 ((mI (mI (mI (mI m 99 0 (0 : Int32)) 136 ((mI m 99 0 (0 : Int32)).1 99 58).toNatClampNeg x1) 137 ((mI (mI m 99 0 (0 : Int32)) 136 ((mI m 99 0 (0 : Int32)).1 99 58).toNatClampNeg x1).1 99 58).toNatClampNeg x2) 138 ((mI (mI (mI m 99 0 (0 : Int32)) 136 ((mI m 99 0 (0 : Int32)).1 99 58).toNatClampNeg x1) 137 ((mI (mI m 99 0 (0 : Int32)) 136 ((mI m 99 0 (0 : Int32)).1 99 58).toNatClampNeg x1).1 99 58).toNatClampNeg x2).1 99 58).toNatClampNeg x3).1 99 58).toNatClampNeg (vp_nar .boolean x4)).1 99 58).toNatClampNeg then none else (some ((((mI (mI (mI (mI (mI (mI (mI m 99 0 (0 : Int32)) 136 ((mI m 99 0 (0 : Int32)).1 99 58).toNatClampNeg x1) 137 ((mI (mI m 99 0 (0 : Int32)) 136 ((mI m 99 0 (0 : Int32)).1 99 58).toNatClampNeg x1).1 99 58).toNatClampNeg x2) 138 ((mI (mI (mI m 99 0 (0 : Int32)) 136 ((mI m 99 0 (0 : Int32)).1 99 58).toNatClampNeg x1) 137 ((mI (mI m 99 0 (0 : Int32)) 136 ((mI m 99 0 (0 : Int32)).1 99 58).toNatClampNeg x1).1 99 58).toNatClampNeg x2).1 99 58).toNatClampNeg x3) 139 ((mI (mI (mI (mI m 99 0 (0 : Int32)) 136 ((mI m 99 0 (0 : Int32)).1 99 58).toNatClampNeg x1) 137 ((mI (mI m 99 0 (0 : Int32)) 136 ((mI m 99 0 (0 : Int32)).1 99 58).toNatClampNeg x1).1 99 58).toNatClampNeg x2) 138 ((mI (mI (mI m 99 0 (0 : Int32)) 136 ((mI m 99 0 (0 : Int32)).1 99 58).toNatClampNeg x1) 137 ((mI (mI m 99 0 (0 : Int32)) 136 ((mI m 99 0 (0 : Int32)).1 99 58).toNatClampNeg x1).1 99 58).toNatClampNeg x2).1 99 58).toNatClampNeg x3).1 99 58).toNatClampNeg (vp_nar .boolean x4)) 140 ((mI (mI (mI (mI (mI m 99 0 (0 : Int32)) 136 ((mI m 99 0 (0 : Int32)).1 99 58).toNatClampNeg x1) 137 ((mI (mI m 99 0 (0 : Int32)) 136 ((mI m 99 0 (0 : Int32)).1 99 58).toNatClampNeg x1).1 99 58).toNatClampNeg x2) 138 ((mI (mI (mI m 99 0 (0 : Int32)) 136 ((mI m 99 0 (0 : Int32)).1 99 58).toNatClampNeg x1) 137 ((mI (mI m 99 0 (0 : Int32)) 136 ((mI m 99 0 (0 : Int32)).1 99 58).toNatClampNeg x1).1 99 58).toNatClampNeg x2).1 99 58).toNatClampNeg x3) 139 ((mI (mI (mI (mI m 99 0 (0 : Int32)) 136 ((mI m 99 0 (0 : Int32)).1 99 58).toNatClampNeg x1) 137 ((mI (mI m 99 0 (0 : Int32)) 136 ((mI m 99 0 (0 : Int32)).1 99 58).toNatClampNeg x1).1 99 58).toNatClampNeg x2) 138 ((mI (mI (mI m 99 0 (0 : Int32)) 136 ((mI m 99 0 (0 : Int32)).1 99 58).toNatClampNeg x1) 137 ((mI (mI m 99 0 (0 : Int32)) 136 ((mI m 99 0 (0 : Int32)).1 99 58).toNatClampNeg x1).1 99 58).toNatClampNeg x2).1 99 58).toNatClampNeg x3).1 99 58).toNatClampNeg (vp_nar .boolean x4)).1 99 58).toNatClampNeg (-1 : Int32)) 99 58 (((mI (mI (mI (mI (mI (mI m 99 0 (0 : Int32)) 136 ((mI m 99 0 (0 : Int32)).1 99 58).toNatClampNeg x1) 137 ((mI (mI m 99 0 (0 : Int32)) 136 ((mI m 99 0 (0 : Int32)).1 99 58).toNatClampNeg x1).1 99 58).toNatClampNeg x2) 138 ((mI (mI (mI m 99 0 (0 : Int32)) 136 ((mI m 99 0 (0 : Int32)).1 99 58).toNatClampNeg x1) 137 ((mI (mI m 99 0 (0 : Int32)) 136 ((mI m 99 0 (0 : Int32)).1 99 58).toNatClampNeg x1).1 99 58).toNatClampNeg x2).1 99 58).toNatClampNeg x3) 139 ((mI (mI (mI (mI m 99 0 (0 : Int32)) 136 ((mI m 99 0 (0 : Int32)).1 99 58).toNatClampNeg x1) 137 ((mI (mI m 99 0 (0 : Int32)) 136 ((mI m 99 0 (0 : Int32)).1 99 58).toNatClampNeg x1).1 99 58).toNatClampNeg x2) 138 ((mI (mI (mI m 99 0 (0 : Int32)) 136 ((mI m 99 0 (0 : Int32)).1 99 58).toNatClampNeg x1) 137 ((mI (mI m 99 0 (0 : Int32)) 136 ((mI m 99 0 (0 : Int32)).1 99 58).toNatClampNeg x1).1 99 58).toNatClampNeg x2).1 99 58).toNatClampNeg x3).1 99 58).toNatClampNeg (vp_nar .boolean x4)) 140 ((mI (mI (mI (mI (mI m 99 0 (0 : Int32)) 136 ((mI m 99 0 (0 : Int32)).1 99 58).toNatClampNeg x1) 137 ((mI (mI m 99 0 (0 : Int32)) 136 ((mI m 99 0 (0 : Int32)).1 99 58).toNatClampNeg x1).1 99 58).toNatClampNeg x2) 138 ((mI (mI (mI m 99 0 (0 : Int32)) 136 ((mI m 99 0 (0 : Int32)).1 99 58).toNatClampNeg x1) 137 ((mI (mI m 99 0 (0 : Int32)) 136 ((mI m 99 0 (0 : Int32)).1 99 58).toNatClampNeg x1).1 99 58).toNatClampNeg x2).1 99 58).toNatClampNeg x3) 139 ((mI (mI (mI (mI m 99 0 (0 : Int32)) 136 ((mI m 99 0 (0 : Int32)).1 99 58).toNatClampNeg x1) 137 ((mI (mI m 99 0 (0 : Int32)) 136 ((mI m 99 0 (0 : Int32)).1 99 58).toNatClampNeg x1).1 99 58).toNatClampNeg x2) 138 ((mI (mI (mI m 99 0 (0 : Int32)) 136 ((mI m 99 0 (0 : Int32)).1 99 58).toNatClampNeg x1) 137 ((mI (mI m 99 0 (0 : Int32)) 136 ((mI m 99 0 (0 : Int32)).1 99 58).toNatClampNeg x1).1 99 58).toNatClampNeg x2).1 99 58).toNatClampNeg x3).1 99 58).toNatClampNeg (vp_nar .boolean x4)).1 99 58).toNatClampNeg (-1 : Int32)).1 99 58) + (1 : Int32))).1 99 58) - (1 : Int32)), (mI (mI (mI (mI (mI (mI (mI m 99 0 (0 : Int32)) 136 ((mI m 99 0 (0 : Int32)).1 99 58).toNatClampNeg x1) 137 ((mI (mI m 99 0 (0 : Int32)) 136 ((mI m 99 0 (0 : Int32)).1 99 58).toNatClampNeg x1).1 99 58).toNatClampNeg x2) 138 ((mI (mI (mI m 99 0 (0 : Int32)) 136 ((mI m 99 0 (0 : Int32)).1 99 58).toNatClampNeg x1) 137 ((mI (mI m 99 0 (0 : Int32)) 136 ((mI m 99 0 (0 : Int32)).1 99 58).toNatClampNeg x1).1 99 58).toNatClampNeg x2).1 99 58).toNatClampNeg x3) 139 ((mI (mI (mI (mI m 99 0 (0 : Int32)) 136 ((mI m 99 0 (0 : Int32)).1 99 58).toNatClampNeg x1) 137 ((mI (mI m 99 0 (0 : Int32)) 136 ((mI m 99 0 (0 : Int32)).1 99 58).toNatClampNeg x1).1 99 58).toNatClampNeg x2) 138 ((mI (mI (mI m 99 0 (0 : Int32)) 136 ((mI m 99 0 (0 : Int32)).1 99 58).toNatClampNeg x1) 137 ((mI (mI m 99 0 (0 : Int32)) 136 ((mI m 99 0 (0 : Int32)).1 99 58).toNatClampNeg x1).1 99 58).toNatClampNeg x2).1 99 58).toNatClampNeg x3).1 99 58).toNatClampNeg (vp_nar .boolean x4)) 140 ((mI (mI (mI (mI (mI m 99 0 (0 : Int32)) 136 ((mI m 99 0 (0 : Int32)).1 99 58).toNatClampNeg x1) 137 ((mI (mI m 99 0 (0 : Int32)) 136 ((mI m 99 0 (0 : Int32)).1 99 58).toNatClampNeg x1).1 99 58).toNatClampNeg x2) 138 ((mI (mI (mI m 99 0 (0 : Int32)) 136 ((mI m 99 0 (0 : Int32)).1 99 58).toNatClampNeg x1) 137 ((mI (mI m 99 0 (0 : Int32)) 136 ((mI m 99 0 (0 : Int32)).1 99 58).toNatClampNeg x1).1 99 58).toNatClampNeg x2).1 99 58).toNatClampNeg x3) 139 ((mI (mI (mI (mI m 99 0 (0 : Int32)) 136 ((mI m 99 0 (0 : Int32)).1 99 58).toNatClampNeg x1) 137 ((mI (mI m 99 0 (0 : Int32)) 136 ((mI m 99 0 (0 : Int32)).1 99 58).toNatClampNeg x1).1 99 58).toNatClampNeg x2) 138 ((mI (mI (mI m 99 0 (0 : Int32)) 136 ((mI m 99 0 (0 : Int32)).1 99 58).toNatClampNeg x1) 137 ((mI (mI m 99 0 (0 : Int32)) 136 ((mI m 99 0 (0 : Int32)).1 99 58).toNatClampNeg x1).1 99 58).toNatClampNeg x2).1 99 58).toNatClampNeg x3).1 99 58).toNatClampNeg (vp_nar .boolean x4)).1 99 58).toNatClampNeg (-1 : Int32)) 99 58 (((mI (mI (mI (mI (mI (mI m 99 0 (0 : Int32)) 136 ((mI m 99 0 (0 : Int32)).1 99 58).toNatClampNeg x1) 137 ((mI (mI m 99 0 (0 : Int32)) 136 ((mI m 99 0 (0 : Int32)).1 99 58).toNatClampNeg x1).1 99 58).toNatClampNeg x2) 138 ((mI (mI (mI m 99 0 (0 : Int32)) 136 ((mI m 99 0 (0 : Int32)).1 99 58).toNatClampNeg x1) 137 ((mI (mI m 99 0 (0 : Int32)) 136 ((mI m 99 0 (0 : Int32)).1 99 58).toNatClampNeg x1).1 99 58).toNatClampNeg x2).1 99 58).toNatClampNeg x3) 139 ((mI (mI (mI (mI m 99 0 (0 : Int32)) 136 ((mI m 99 0 (0 : Int32)).1 99 58).toNatClampNeg x1) 137 ((mI (mI m 99 0 (0 : Int32)) 136 ((mI m 99 0 (0 : Int32)).1 99 58).toNatClampNeg x1).1 99 58).toNatClampNeg x2) 138 ((mI (mI (mI m 99 0 (0 : Int32)) 136 ((mI m 99 0 (0 : Int32)).1 99 58).toNatClampNeg x1) 137 ((mI (mI m 99 0 (0 : Int32)) 136 ((mI m 99 0 (0 : Int32)).1 99 58).toNatClampNeg x1).1 99 58).toNatClampNeg x2).1 99 58).toNatClampNeg x3).1 99 58).toNatClampNeg (vp_nar .boolean x4)) 140 ((mI (mI (mI (mI (mI m 99 0 (0 : Int32)) 136 ((mI m 99 0 (0 : Int32)).1 99 58).toNatClampNeg x1) 137 ((mI (mI m 99 0 (0 : Int32)) 136 ((mI m 99 0 (0 : Int32)).1 99 58).toNatClampNeg x1).1 99 58).toNatClampNeg x2) 138 ((mI (mI (mI m 99 0 (0 : Int32)) 136 ((mI m 99 0 (0 : Int32)).1 99 58).toNatClampNeg x1) 137 ((mI (mI m 99 0 (0 : Int32)) 136 ((mI m 99 0 (0 : Int32)).1 99 58).toNatClampNeg x1).1 99 58).toNatClampNeg x2).1 99 58).toNatClampNeg x3) 139 ((mI (mI (mI (mI m 99 0 (0 : Int32)) 136 ((mI m 99 0 (0 : Int32)).1 99 58).toNatClampNeg x1) 137 ((mI (mI m 99 0 (0 : Int32)) 136 ((mI m 99 0 (0 : Int32)).1 99 58).toNatClampNeg x1).1 99 58).toNatClampNeg x2) 138 ((mI (mI (mI m 99 0 (0 : Int32)) 136 ((mI m 99 0 (0 : Int32)).1 99 58).toNatClampNeg x1) 137 ((mI (mI m 99 0 (0 : Int32)) 136 ((mI m 99 0 (0 : Int32)).1 99 58).toNatClampNeg x1).1 99 58).toNatClampNeg x2).1 99 58).toNatClampNeg x3).1 99 58).toNatClampNeg (vp_nar .boolean x4)).1 99 58).toNatClampNeg (-1 : Int32)).1 99 58) + (1 : Int32))))))))))))))))) = some fin := hm
  refine lv_aload_n hx hb dX12_see_0 rfl (lv_at hl 0 rfl) ?_
  refine lv_iconst (v := (0 : Int32)) hx hb dX12_see_1 (by decide) ?_
  refine pI X hI fpX12_154 (la_99 hn) dX12_see_2 (fun H locs hI => ?_)
  refine lv_iload_n hx hb dX12_see_5 rfl (lv_at hl 1 rfl) ?_
  refine lv_iconst (v := (1 : Int32)) hx hb dX12_see_6 (by decide) ?_
  refine lv_icmp_lt (tgt := 43) hx hb dX12_see_7 (by decide) (fun c1 => ?_) (fun c1 => ?_)
  · have hm := g_t c1 hm
    refine lv_iconst (v := (-1 : Int32)) hx hb dX12_see_43 (by decide) ?_
    exact rI X hI hr (g_p hm).1 (g_p hm).2 dX12_see_44
  · have hm := g_f c1 hm
    refine lv_iload_n hx hb dX12_see_10 rfl (lv_at hl 1 rfl) ?_
    refine lv_bipush (v := (60 : Int32)) hx hb dX12_see_11 (by decide) ?_
    refine lv_icmp_gt (tgt := 43) hx hb dX12_see_13 (by decide) (fun c2 => ?_) (fun c2 => ?_)
    · have hm := g_t c2 hm
      refine lv_iconst (v := (-1 : Int32)) hx hb dX12_see_43 (by decide) ?_
      exact rI X hI hr (g_p hm).1 (g_p hm).2 dX12_see_44
    · have hm := g_f c2 hm
      refine lv_aload_n hx hb dX12_see_16 rfl (lv_at hl 0 rfl) ?_
      refine lv_iload_n hx hb dX12_see_17 rfl (lv_at hl 2 rfl) ?_
      obtain ⟨q3, h4, hm⟩ := g_b hm
      refine backI X hI (runV X hI (ctX12_isKnight x2  hn _ _ h4 _) mdX12_419 (la_99 hn) rfl ⟨rfl, rfl⟩ ⟨Nat.le_of_ble_eq_true rfl, Nat.le_of_ble_eq_true rfl⟩ rfl hl.1 rfl (Nat.le_of_ble_eq_true rfl) dX12_see_18) (fun H locs hI => ?_)
      refine lv_if_eq (tgt := 43) hx hb dX12_see_21 (by decide) (fun c5 => ?_) (fun c5 => ?_)
      · have hm := g_t c5 hm
        refine lv_iconst (v := (-1 : Int32)) hx hb dX12_see_43 (by decide) ?_
        exact rI X hI hr (g_p hm).1 (g_p hm).2 dX12_see_44
      · have hm := g_f c5 hm
        refine lv_iload_n hx hb dX12_see_24 rfl (lv_at hl 3 rfl) ?_
        refine lv_if_lt (tgt := 43) hx hb dX12_see_25 (by decide) (fun c6 => ?_) (fun c6 => ?_)
        · have hm := g_t c6 hm
          refine lv_iconst (v := (-1 : Int32)) hx hb dX12_see_43 (by decide) ?_
          exact rI X hI hr (g_p hm).1 (g_p hm).2 dX12_see_44
        · have hm := g_f c6 hm
          refine lv_iload_n hx hb dX12_see_28 rfl (lv_at hl 3 rfl) ?_
          refine lv_bipush (v := (99 : Int32)) hx hb dX12_see_29 (by decide) ?_
          refine lv_icmp_gt (tgt := 43) hx hb dX12_see_31 (by decide) (fun c7 => ?_) (fun c7 => ?_)
          · have hm := g_t c7 hm
            refine lv_iconst (v := (-1 : Int32)) hx hb dX12_see_43 (by decide) ?_
            exact rI X hI hr (g_p hm).1 (g_p hm).2 dX12_see_44
          · have hm := g_f c7 hm
            refine lv_aload_n hx hb dX12_see_34 rfl (lv_at hl 0 rfl) ?_
            refine gI X hI fdX12_310 (la_99 hn) dX12_see_35 ?_
            refine lv_bipush (v := (24 : Int32)) hx hb dX12_see_38 (by decide) ?_
            refine lv_icmp_ne (tgt := 45) hx hb dX12_see_40 (by decide) (fun c8 => ?_) (fun c8 => ?_)
            · have hm := g_f c8 hm
              refine lv_aload_n hx hb dX12_see_45 rfl (lv_at hl 0 rfl) ?_
              refine gR X hI fdX12_129 (la_99 hn) rf12_60 dX12_see_46 ?_
              refine lv_aload_n hx hb dX12_see_49 rfl (lv_at hl 0 rfl) ?_
              refine gI X hI fdX12_310 (la_99 hn) dX12_see_50 ?_
              refine lv_iload_n hx hb dX12_see_53 rfl (lv_at hl 1 rfl) ?_
              obtain ⟨g9, hm⟩ := g_no hm
              refine sI X hI (la_136 hn) g9 dX12_see_54 (fun H locs hI => ?_)
              refine lv_aload_n hx hb dX12_see_55 rfl (lv_at hl 0 rfl) ?_
              refine gR X hI fdX12_132 (la_99 hn) rf12_61 dX12_see_56 ?_
              refine lv_aload_n hx hb dX12_see_59 rfl (lv_at hl 0 rfl) ?_
              refine gI X hI fdX12_310 (la_99 hn) dX12_see_60 ?_
              refine lv_iload_n hx hb dX12_see_63 rfl (lv_at hl 2 rfl) ?_
              obtain ⟨g10, hm⟩ := g_no hm
              refine sI X hI (la_137 hn) g10 dX12_see_64 (fun H locs hI => ?_)
              refine lv_aload_n hx hb dX12_see_65 rfl (lv_at hl 0 rfl) ?_
              refine gR X hI fdX12_135 (la_99 hn) rf12_62 dX12_see_66 ?_
              refine lv_aload_n hx hb dX12_see_69 rfl (lv_at hl 0 rfl) ?_
              refine gI X hI fdX12_310 (la_99 hn) dX12_see_70 ?_
              refine lv_iload_n hx hb dX12_see_73 rfl (lv_at hl 3 rfl) ?_
              obtain ⟨g11, hm⟩ := g_no hm
              refine sI X hI (la_138 hn) g11 dX12_see_74 (fun H locs hI => ?_)
              refine lv_aload_n hx hb dX12_see_75 rfl (lv_at hl 0 rfl) ?_
              refine gR X hI fdX12_138 (la_99 hn) rf12_63 dX12_see_76 ?_
              refine lv_aload_n hx hb dX12_see_79 rfl (lv_at hl 0 rfl) ?_
              refine gI X hI fdX12_310 (la_99 hn) dX12_see_80 ?_
              refine lv_iload hx hb dX12_see_83 (lv_at hl 4 rfl) ?_
              obtain ⟨g12, hm⟩ := g_no hm
              refine sZ X hI (la_139 hn) g12 dX12_see_85 (fun H locs hI => ?_)
              refine lv_aload_n hx hb dX12_see_86 rfl (lv_at hl 0 rfl) ?_
              refine gR X hI fdX12_142 (la_99 hn) rf12_64 dX12_see_87 ?_
              refine lv_aload_n hx hb dX12_see_90 rfl (lv_at hl 0 rfl) ?_
              refine gI X hI fdX12_310 (la_99 hn) dX12_see_91 ?_
              refine lv_iconst (v := (-1 : Int32)) hx hb dX12_see_94 (by decide) ?_
              obtain ⟨g13, hm⟩ := g_no hm
              refine sI X hI (la_140 hn) g13 dX12_see_95 (fun H locs hI => ?_)
              refine lv_aload_n hx hb dX12_see_96 rfl (lv_at hl 0 rfl) ?_
              refine lv_dup hx hb dX12_see_97 rfl ?_
              refine gI X hI fdX12_310 (la_99 hn) dX12_see_98 ?_
              refine lv_iconst (v := (1 : Int32)) hx hb dX12_see_101 (by decide) ?_
              refine lv_iadd hx hb dX12_see_102 ?_
              refine pI X hI fpX12_310 (la_99 hn) dX12_see_103 (fun H locs hI => ?_)
              refine lv_aload_n hx hb dX12_see_106 rfl (lv_at hl 0 rfl) ?_
              refine gI X hI fdX12_310 (la_99 hn) dX12_see_107 ?_
              refine lv_iconst (v := (1 : Int32)) hx hb dX12_see_110 (by decide) ?_
              refine lv_isub hx hb dX12_see_111 ?_
              exact rI X hI hr (g_p hm).1 (g_p hm).2 dX12_see_112
            · have hm := g_t c8 hm
              refine lv_iconst (v := (-1 : Int32)) hx hb dX12_see_43 (by decide) ?_
              exact rI X hI hr (g_p hm).1 (g_p hm).2 dX12_see_44
abbrev rmX12_strike : Room := { frames := 0, cells := 0, slots := 0, locals := 0 }
abbrev cwX12_strike : Cond := .code yX12_strike cX12_strike 2 (some .int)
theorem cmX12_strike : cwX12_strike ∈ BIG := (tb8 (List.mem_of_getElem? (i := 142) rfl) rfl)
def fX12_strike  (x1 : Int32) (m : Mem) : Option (Int32 × Mem) := if x1 < 0 then (some ((-1 : Int32), (mI m 99 0 (0 : Int32)))) else (if ((mI m 99 0 (0 : Int32)).1 99 58) ≤ x1 then (some ((-1 : Int32), (mI m 99 0 (0 : Int32)))) else (if ((mI m 99 0 (0 : Int32)).1 99 58) = (24 : Int32) then (some ((-1 : Int32), (mI m 99 0 (0 : Int32)))) else (if ((mI m 99 0 (0 : Int32)).1 99 58) < 0 ∨ 24 ≤ ((mI m 99 0 (0 : Int32)).1 99 58).toNatClampNeg then none else (some ((((mI (mI (mI m 99 0 (0 : Int32)) 140 ((mI m 99 0 (0 : Int32)).1 99 58).toNatClampNeg x1) 99 58 (((mI (mI m 99 0 (0 : Int32)) 140 ((mI m 99 0 (0 : Int32)).1 99 58).toNatClampNeg x1).1 99 58) + (1 : Int32))).1 99 58) - (1 : Int32)), (mI (mI (mI m 99 0 (0 : Int32)) 140 ((mI m 99 0 (0 : Int32)).1 99 58).toNatClampNeg x1) 99 58 (((mI (mI m 99 0 (0 : Int32)) 140 ((mI m 99 0 (0 : Int32)).1 99 58).toNatClampNeg x1).1 99 58) + (1 : Int32))))))))
set_option maxHeartbeats 4000000 in
set_option maxRecDepth 100000 in
theorem ctX12_strike {l : Launch} {D : va_G} {ca : Nat → ClassId} {ad : Nat → Nat}  (x1 : Int32)  (hn : HNr ca) (m : Mem) (fin : (Int32 × Mem)) (hm : fX12_strike x1 m = some fin) : CI l D ca ad yX12_strike cwX12_strike rmX12_strike [.ref (ad 99), .int x1] m fin.1 fin.2 := by
  refine start (by decide) (Nat.le_of_ble_eq_true rfl) ?_
  intro p e s mm args below meth c H locs ls X hI hr hl
  have X : CX p s mm args meth c cX12_strike 2 RX12 D ca ad (WA ca ad s.heap.size) := X
  have hx := X.1
  have hb := X.2.1
  have hl : lv_has ls 2 [(0, .ref (ad 99)), (1, .int x1)] := hl
  have hm : (if x1 < 0 then (some ((-1 : Int32), (mI m 99 0 (0 : Int32)))) else (if ((mI m 99 0 (0 : Int32)).1 99 58) ≤ x1 then (some ((-1 : Int32), (mI m 99 0 (0 : Int32)))) else (if ((mI m 99 0 (0 : Int32)).1 99 58) = (24 : Int32) then (some ((-1 : Int32), (mI m 99 0 (0 : Int32)))) else (if ((mI m 99 0 (0 : Int32)).1 99 58) < 0 ∨ 24 ≤ ((mI m 99 0 (0 : Int32)).1 99 58).toNatClampNeg then none else (some ((((mI (mI (mI m 99 0 (0 : Int32)) 140 ((mI m 99 0 (0 : Int32)).1 99 58).toNatClampNeg x1) 99 58 (((mI (mI m 99 0 (0 : Int32)) 140 ((mI m 99 0 (0 : Int32)).1 99 58).toNatClampNeg x1).1 99 58) + (1 : Int32))).1 99 58) - (1 : Int32)), (mI (mI (mI m 99 0 (0 : Int32)) 140 ((mI m 99 0 (0 : Int32)).1 99 58).toNatClampNeg x1) 99 58 (((mI (mI m 99 0 (0 : Int32)) 140 ((mI m 99 0 (0 : Int32)).1 99 58).toNatClampNeg x1).1 99 58) + (1 : Int32))))))))) = some fin := hm
  refine lv_aload_n hx hb dX12_strike_0 rfl (lv_at hl 0 rfl) ?_
  refine lv_iconst (v := (0 : Int32)) hx hb dX12_strike_1 (by decide) ?_
  refine pI X hI fpX12_154 (la_99 hn) dX12_strike_2 (fun H locs hI => ?_)
  refine lv_iload_n hx hb dX12_strike_5 rfl (lv_at hl 1 rfl) ?_
  refine lv_if_lt (tgt := 26) hx hb dX12_strike_6 (by decide) (fun c1 => ?_) (fun c1 => ?_)
  · have hm := g_t c1 hm
    refine lv_iconst (v := (-1 : Int32)) hx hb dX12_strike_26 (by decide) ?_
    exact rI X hI hr (g_p hm).1 (g_p hm).2 dX12_strike_27
  · have hm := g_f c1 hm
    refine lv_iload_n hx hb dX12_strike_9 rfl (lv_at hl 1 rfl) ?_
    refine lv_aload_n hx hb dX12_strike_10 rfl (lv_at hl 0 rfl) ?_
    refine gI X hI fdX12_310 (la_99 hn) dX12_strike_11 ?_
    refine lv_icmp_ge (tgt := 26) hx hb dX12_strike_14 (by decide) (fun c2 => ?_) (fun c2 => ?_)
    · have hm := g_t c2 hm
      refine lv_iconst (v := (-1 : Int32)) hx hb dX12_strike_26 (by decide) ?_
      exact rI X hI hr (g_p hm).1 (g_p hm).2 dX12_strike_27
    · have hm := g_f c2 hm
      refine lv_aload_n hx hb dX12_strike_17 rfl (lv_at hl 0 rfl) ?_
      refine gI X hI fdX12_310 (la_99 hn) dX12_strike_18 ?_
      refine lv_bipush (v := (24 : Int32)) hx hb dX12_strike_21 (by decide) ?_
      refine lv_icmp_ne (tgt := 28) hx hb dX12_strike_23 (by decide) (fun c3 => ?_) (fun c3 => ?_)
      · have hm := g_f c3 hm
        refine lv_aload_n hx hb dX12_strike_28 rfl (lv_at hl 0 rfl) ?_
        refine gR X hI fdX12_142 (la_99 hn) rf12_64 dX12_strike_29 ?_
        refine lv_aload_n hx hb dX12_strike_32 rfl (lv_at hl 0 rfl) ?_
        refine gI X hI fdX12_310 (la_99 hn) dX12_strike_33 ?_
        refine lv_iload_n hx hb dX12_strike_36 rfl (lv_at hl 1 rfl) ?_
        obtain ⟨g4, hm⟩ := g_no hm
        refine sI X hI (la_140 hn) g4 dX12_strike_37 (fun H locs hI => ?_)
        refine lv_aload_n hx hb dX12_strike_38 rfl (lv_at hl 0 rfl) ?_
        refine lv_dup hx hb dX12_strike_39 rfl ?_
        refine gI X hI fdX12_310 (la_99 hn) dX12_strike_40 ?_
        refine lv_iconst (v := (1 : Int32)) hx hb dX12_strike_43 (by decide) ?_
        refine lv_iadd hx hb dX12_strike_44 ?_
        refine pI X hI fpX12_310 (la_99 hn) dX12_strike_45 (fun H locs hI => ?_)
        refine lv_aload_n hx hb dX12_strike_48 rfl (lv_at hl 0 rfl) ?_
        refine gI X hI fdX12_310 (la_99 hn) dX12_strike_49 ?_
        refine lv_iconst (v := (1 : Int32)) hx hb dX12_strike_52 (by decide) ?_
        refine lv_isub hx hb dX12_strike_53 ?_
        exact rI X hI hr (g_p hm).1 (g_p hm).2 dX12_strike_54
      · have hm := g_t c3 hm
        refine lv_iconst (v := (-1 : Int32)) hx hb dX12_strike_26 (by decide) ?_
        exact rI X hI hr (g_p hm).1 (g_p hm).2 dX12_strike_27
abbrev rmX12_known : Room := { frames := 0, cells := 0, slots := 0, locals := 0 }
abbrev cwX12_known : Cond := .code yX12_known cX12_known 2 (some .boolean)
theorem cmX12_known : cwX12_known ∈ BIG := (tb8 (List.mem_of_getElem? (i := 146) rfl) rfl)
def fX12_known  (x1 : Int32) (m : Mem) : Option (Int32 × Mem) := if x1 < (-1 : Int32) then (some ((0 : Int32), (mI m 99 0 (0 : Int32)))) else (if x1 ≤ ((mI m 99 0 (0 : Int32)).1 99 58) then (some ((1 : Int32), (mI (mI m 99 0 (0 : Int32)) 99 59 x1))) else (some ((0 : Int32), (mI m 99 0 (0 : Int32)))))
set_option maxHeartbeats 4000000 in
set_option maxRecDepth 100000 in
theorem ctX12_known {l : Launch} {D : va_G} {ca : Nat → ClassId} {ad : Nat → Nat}  (x1 : Int32)  (hn : HNr ca) (m : Mem) (fin : (Int32 × Mem)) (hm : fX12_known x1 m = some fin) : CI l D ca ad yX12_known cwX12_known rmX12_known [.ref (ad 99), .int x1] m fin.1 fin.2 := by
  refine start (by decide) (Nat.le_of_ble_eq_true rfl) ?_
  intro p e s mm args below meth c H locs ls X hI hr hl
  have X : CX p s mm args meth c cX12_known 2 RX12 D ca ad (WA ca ad s.heap.size) := X
  have hx := X.1
  have hb := X.2.1
  have hl : lv_has ls 2 [(0, .ref (ad 99)), (1, .int x1)] := hl
  have hm : (if x1 < (-1 : Int32) then (some ((0 : Int32), (mI m 99 0 (0 : Int32)))) else (if x1 ≤ ((mI m 99 0 (0 : Int32)).1 99 58) then (some ((1 : Int32), (mI (mI m 99 0 (0 : Int32)) 99 59 x1))) else (some ((0 : Int32), (mI m 99 0 (0 : Int32)))))) = some fin := hm
  refine lv_aload_n hx hb dX12_known_0 rfl (lv_at hl 0 rfl) ?_
  refine lv_iconst (v := (0 : Int32)) hx hb dX12_known_1 (by decide) ?_
  refine pI X hI fpX12_154 (la_99 hn) dX12_known_2 (fun H locs hI => ?_)
  refine lv_iload_n hx hb dX12_known_5 rfl (lv_at hl 1 rfl) ?_
  refine lv_iconst (v := (-1 : Int32)) hx hb dX12_known_6 (by decide) ?_
  refine lv_icmp_lt (tgt := 18) hx hb dX12_known_7 (by decide) (fun c1 => ?_) (fun c1 => ?_)
  · have hm := g_t c1 hm
    refine lv_iconst (v := (0 : Int32)) hx hb dX12_known_18 (by decide) ?_
    exact rZ X hI hr (by decide) (g_p hm).1 (g_p hm).2 dX12_known_19
  · have hm := g_f c1 hm
    refine lv_iload_n hx hb dX12_known_10 rfl (lv_at hl 1 rfl) ?_
    refine lv_aload_n hx hb dX12_known_11 rfl (lv_at hl 0 rfl) ?_
    refine gI X hI fdX12_310 (la_99 hn) dX12_known_12 ?_
    refine lv_icmp_le (tgt := 20) hx hb dX12_known_15 (by decide) (fun c2 => ?_) (fun c2 => ?_)
    · have hm := g_t c2 hm
      refine lv_aload_n hx hb dX12_known_20 rfl (lv_at hl 0 rfl) ?_
      refine lv_iload_n hx hb dX12_known_21 rfl (lv_at hl 1 rfl) ?_
      refine pI X hI fpX12_126 (la_99 hn) dX12_known_22 (fun H locs hI => ?_)
      refine lv_iconst (v := (1 : Int32)) hx hb dX12_known_25 (by decide) ?_
      exact rZ X hI hr (by decide) (g_p hm).1 (g_p hm).2 dX12_known_26
    · have hm := g_f c2 hm
      refine lv_iconst (v := (0 : Int32)) hx hb dX12_known_18 (by decide) ?_
      exact rZ X hI hr (by decide) (g_p hm).1 (g_p hm).2 dX12_known_19
abbrev rmX12_knownMany : Room := { frames := 0, cells := 0, slots := 0, locals := 0 }
def fX12_knownMany   (m : Mem) : Option Int32 := if (m.1 99 59) = (-1 : Int32) then (some (m.1 99 58)) else (some (m.1 99 59))
set_option maxHeartbeats 4000000 in
set_option maxRecDepth 100000 in
theorem ctX12_knownMany {l : Launch} {D : va_G} {ca : Nat → ClassId} {ad : Nat → Nat}    (hn : HNr ca) (m : Mem) (fin : Int32) (hm : fX12_knownMany  m = some fin) : CI l D ca ad yX12_knownMany cwX12_knownMany rmX12_knownMany [.ref (ad 99)] m fin m := by
  refine start (by decide) (Nat.le_of_ble_eq_true rfl) ?_
  intro p e s mm args below meth c H locs ls X hI hr hl
  have X : CX p s mm args meth c cX12_knownMany 1 RX12 D ca ad (WA ca ad s.heap.size) := X
  have hx := X.1
  have hb := X.2.1
  have hl : lv_has ls 1 [(0, .ref (ad 99))] := hl
  have hm : (if (m.1 99 59) = (-1 : Int32) then (some (m.1 99 58)) else (some (m.1 99 59))) = some fin := hm
  have hpm : m = m := rfl
  refine lv_aload_n hx hb dX12_knownMany_0 rfl (lv_at hl 0 rfl) ?_
  refine gI X hI fdX12_126 (la_99 hn) dX12_knownMany_1 ?_
  refine lv_iconst (v := (-1 : Int32)) hx hb dX12_knownMany_4 (by decide) ?_
  refine lv_icmp_ne (tgt := 15) hx hb dX12_knownMany_5 (by decide) (fun c1 => ?_) (fun c1 => ?_)
  · have hm := g_f c1 hm
    refine lv_aload_n hx hb dX12_knownMany_15 rfl (lv_at hl 0 rfl) ?_
    refine gI X hI fdX12_126 (la_99 hn) dX12_knownMany_16 ?_
    exact rI X hI hr (g_1 hm) hpm dX12_knownMany_19
  · have hm := g_t c1 hm
    refine lv_aload_n hx hb dX12_knownMany_8 rfl (lv_at hl 0 rfl) ?_
    refine gI X hI fdX12_310 (la_99 hn) dX12_knownMany_9 ?_
    refine lv_goto (tgt := 19) hx hb dX12_knownMany_12 (by decide) ?_
    exact rI X hI hr (g_1 hm) hpm dX12_knownMany_19
abbrev rmX12_isSo : Room := { frames := 1, cells := 0, slots := 0, locals := 20 }
def fX12_isSo_70 (N : Nat) (k2 : Int32 → Int32 → Mem → Option Int32) (x1 : Int32) (x2 : Int32) (y0 : Int32) (m : Mem) : Option Int32 := if x2 < 0 ∨ 24 ≤ x2.toNatClampNeg then none else (if y0 = (m.1 139 x2.toNatClampNeg) then (k2 x1 (x2 + (1 : Int32)) m) else (some (0 : Int32)))
set_option maxHeartbeats 4000000 in
set_option maxRecDepth 100000 in
theorem tX12_isSo_70 (N : Nat) {l : Launch} {D : va_G} {ca : Nat → ClassId} {ad : Nat → Nat} {p : Program} {e : Env} {s : State} {mm : MethodId} {args : Array Value} {below : List Frame} {meth : Method} {c : Code} {k2 : Int32 → Int32 → Mem → Option Int32} (hn : HNr ca) (X : CX p s mm args meth c cX12_isSo 3 RX12 D ca ad (WA ca ad s.heap.size)) (hr : meth.sig.returnType = (some .boolean)) (fin : Int32) (m0 : Mem) (hk2 : ∀ (x1 : Int32) (x2 : Int32) (m : Mem) (H : Heap) (locs : List Loc) (ls : Array Slot), IW D ca ad (WA ca ad s.heap.size) s m H locs → lv_has ls 3 [(0, .ref (ad 99)), (1, .int x1), (2, .int x2)] → k2 x1 x2 m = some fin → m = m0 → W p l e rmX12_isSo s mm args below meth c H locs 0 0 (MQ below (QI D ca ad s.heap.size fin m0) args s 0 0 (WA ca ad s.heap.size)) (F0 mm 2 ls [])) : ∀ (x1 : Int32) (x2 : Int32) (y0 : Int32) (m : Mem) (H : Heap) (locs : List Loc) (ls : Array Slot), IW D ca ad (WA ca ad s.heap.size) s m H locs → lv_has ls 3 [(0, .ref (ad 99)), (1, .int x1), (2, .int x2)] → fX12_isSo_70 N k2 x1 x2 y0 m = some fin → m = m0 → W p l e rmX12_isSo s mm args below meth c H locs 0 0 (MQ below (QI D ca ad s.heap.size fin m0) args s 0 0 (WA ca ad s.heap.size)) (F0 mm 70 ls [.int y0]) := by
  have hx := X.1
  have hb := X.2.1
  intro x1 x2 y0 m H locs ls hI hl hm hpm
  have hm : (if x2 < 0 ∨ 24 ≤ x2.toNatClampNeg then none else (if y0 = (m.1 139 x2.toNatClampNeg) then (k2 x1 (x2 + (1 : Int32)) m) else (some (0 : Int32)))) = some fin := hm
  refine lv_aload_n hx hb dX12_isSo_70 rfl (lv_at hl 0 rfl) ?_
  refine gR X hI fdX12_138 (la_99 hn) rf12_63 dX12_isSo_71 ?_
  refine lv_iload_n hx hb dX12_isSo_74 rfl (lv_at hl 2 rfl) ?_
  obtain ⟨g14, hm⟩ := g_no hm
  refine aZ X hI (la_139 hn) g14 dX12_isSo_75 ?_
  refine lv_icmp_eq (tgt := 81) hx hb dX12_isSo_76 (by decide) (fun c15 => ?_) (fun c15 => ?_)
  · have hm := g_t c15 hm
    refine lv_iinc (v := (x2 + (1 : Int32))) (lv' := [(2, .int (x2 + (1 : Int32))), (0, .ref (ad 99)), (1, .int x1)]) hx hb dX12_isSo_81 hl (k := 2) rfl rfl (by decide) rfl (fun ls hl => ?_)
    refine lv_goto (tgt := 2) hx hb dX12_isSo_84 (by decide) ?_
    exact hk2 x1 (x2 + (1 : Int32)) m H locs ls hI (lv_sub hl [1, 2, 0] rfl) hm hpm
  · have hm := g_f c15 hm
    refine lv_iconst (v := (0 : Int32)) hx hb dX12_isSo_79 (by decide) ?_
    exact rZ X hI hr (by decide) (g_1 hm) hpm dX12_isSo_80
def fX12_isSo_2 (N : Nat) : Nat → Int32 → Int32 → Mem → Option Int32
  | 0, _, _, _ => none
  | n + 1, x1, x2, m => (fX12_knownMany  m).bind (fun q1 => if q1 ≤ x2 then (some (1 : Int32)) else (if x2 < 0 ∨ 24 ≤ x2.toNatClampNeg then none else (if (m.1 141 x2.toNatClampNeg) = 0 then (if x2 < 0 ∨ 24 ≤ x2.toNatClampNeg then none else (if (m.1 140 x2.toNatClampNeg) = (-1 : Int32) then (if x2 < 0 ∨ 24 ≤ x2.toNatClampNeg then none else (if (m.1 136 x2.toNatClampNeg) = x1 then (if x2 < 0 ∨ 24 ≤ x2.toNatClampNeg then none else (if ((6 : Int32) + (m.1 137 x2.toNatClampNeg)) < 0 ∨ 138 ≤ ((6 : Int32) + (m.1 137 x2.toNatClampNeg)).toNatClampNeg then none else (if x2 < 0 ∨ 24 ≤ x2.toNatClampNeg then none else (if (m.1 131 ((6 : Int32) + (m.1 137 x2.toNatClampNeg)).toNatClampNeg) < (m.1 138 x2.toNatClampNeg) then (fX12_isSo_70 N (fun x1 x2 m => fX12_isSo_2 N n x1 x2 m) x1 x2 (0 : Int32) m) else (fX12_isSo_70 N (fun x1 x2 m => fX12_isSo_2 N n x1 x2 m) x1 x2 (1 : Int32) m))))) else (fX12_isSo_2 N n x1 (x2 + (1 : Int32)) m))) else (fX12_isSo_2 N n x1 (x2 + (1 : Int32)) m))) else (fX12_isSo_2 N n x1 (x2 + (1 : Int32)) m))))
set_option maxHeartbeats 4000000 in
set_option maxRecDepth 100000 in
theorem tX12_isSo_2 (N : Nat) {l : Launch} {D : va_G} {ca : Nat → ClassId} {ad : Nat → Nat} {p : Program} {e : Env} {s : State} {mm : MethodId} {args : Array Value} {below : List Frame} {meth : Method} {c : Code}  (hn : HNr ca) (X : CX p s mm args meth c cX12_isSo 3 RX12 D ca ad (WA ca ad s.heap.size)) (hr : meth.sig.returnType = (some .boolean)) (fin : Int32) (m0 : Mem)  : ∀ (n : Nat) (x1 : Int32) (x2 : Int32) (m : Mem) (H : Heap) (locs : List Loc) (ls : Array Slot), IW D ca ad (WA ca ad s.heap.size) s m H locs → lv_has ls 3 [(0, .ref (ad 99)), (1, .int x1), (2, .int x2)] → fX12_isSo_2 N n x1 x2 m = some fin → m = m0 → W p l e rmX12_isSo s mm args below meth c H locs 0 0 (MQ below (QI D ca ad s.heap.size fin m0) args s 0 0 (WA ca ad s.heap.size)) (F0 mm 2 ls []) := by
  have hx := X.1
  have hb := X.2.1
  intro n
  induction n with
  | zero => intro x1 x2 m H locs ls hI hl hm hpm
            exact absurd hm (by intro q; cases q)
  | succ n ih =>
    intro x1 x2 m H locs ls hI hl hm hpm
    have hm : ((fX12_knownMany  m).bind (fun q1 => if q1 ≤ x2 then (some (1 : Int32)) else (if x2 < 0 ∨ 24 ≤ x2.toNatClampNeg then none else (if (m.1 141 x2.toNatClampNeg) = 0 then (if x2 < 0 ∨ 24 ≤ x2.toNatClampNeg then none else (if (m.1 140 x2.toNatClampNeg) = (-1 : Int32) then (if x2 < 0 ∨ 24 ≤ x2.toNatClampNeg then none else (if (m.1 136 x2.toNatClampNeg) = x1 then (if x2 < 0 ∨ 24 ≤ x2.toNatClampNeg then none else (if ((6 : Int32) + (m.1 137 x2.toNatClampNeg)) < 0 ∨ 138 ≤ ((6 : Int32) + (m.1 137 x2.toNatClampNeg)).toNatClampNeg then none else (if x2 < 0 ∨ 24 ≤ x2.toNatClampNeg then none else (if (m.1 131 ((6 : Int32) + (m.1 137 x2.toNatClampNeg)).toNatClampNeg) < (m.1 138 x2.toNatClampNeg) then (fX12_isSo_70 N (fun x1 x2 m => fX12_isSo_2 N n x1 x2 m) x1 x2 (0 : Int32) m) else (fX12_isSo_70 N (fun x1 x2 m => fX12_isSo_2 N n x1 x2 m) x1 x2 (1 : Int32) m))))) else (fX12_isSo_2 N n x1 (x2 + (1 : Int32)) m))) else (fX12_isSo_2 N n x1 (x2 + (1 : Int32)) m))) else (fX12_isSo_2 N n x1 (x2 + (1 : Int32)) m))))) = some fin := hm
    refine lv_iload_n hx hb dX12_isSo_2 rfl (lv_at hl 2 rfl) ?_
    refine lv_aload_n hx hb dX12_isSo_3 rfl (lv_at hl 0 rfl) ?_
    obtain ⟨q1, h2, hm⟩ := g_b hm
    refine backI X hI (runV X hI (ctX12_knownMany   hn _ _ h2 _) mdX12_482 (la_99 hn) rfl ⟨rfl, rfl⟩ ⟨Nat.le_of_ble_eq_true rfl, Nat.le_of_ble_eq_true rfl⟩ rfl hl.1 rfl (Nat.le_of_ble_eq_true rfl) dX12_isSo_4) (fun H locs hI => ?_)
    refine lv_icmp_ge (tgt := 87) hx hb dX12_isSo_7 (by decide) (fun c3 => ?_) (fun c3 => ?_)
    · have hm := g_t c3 hm
      refine lv_iconst (v := (1 : Int32)) hx hb dX12_isSo_87 (by decide) ?_
      exact rZ X hI hr (by decide) (g_1 hm) hpm dX12_isSo_88
    · have hm := g_f c3 hm
      refine lv_aload_n hx hb dX12_isSo_10 rfl (lv_at hl 0 rfl) ?_
      refine gR X hI fdX12_145 (la_99 hn) rf12_65 dX12_isSo_11 ?_
      refine lv_iload_n hx hb dX12_isSo_14 rfl (lv_at hl 2 rfl) ?_
      obtain ⟨g4, hm⟩ := g_no hm
      refine aZ X hI (la_141 hn) g4 dX12_isSo_15 ?_
      refine lv_if_ne (tgt := 81) hx hb dX12_isSo_16 (by decide) (fun c5 => ?_) (fun c5 => ?_)
      · have hm := g_f c5 hm
        refine lv_iinc (v := (x2 + (1 : Int32))) (lv' := [(2, .int (x2 + (1 : Int32))), (0, .ref (ad 99)), (1, .int x1)]) hx hb dX12_isSo_81 hl (k := 2) rfl rfl (by decide) rfl (fun ls hl => ?_)
        refine lv_goto (tgt := 2) hx hb dX12_isSo_84 (by decide) ?_
        exact ih x1 (x2 + (1 : Int32)) m H locs ls hI (lv_sub hl [1, 2, 0] rfl) hm hpm
      · have hm := g_t c5 hm
        refine lv_aload_n hx hb dX12_isSo_19 rfl (lv_at hl 0 rfl) ?_
        refine gR X hI fdX12_142 (la_99 hn) rf12_64 dX12_isSo_20 ?_
        refine lv_iload_n hx hb dX12_isSo_23 rfl (lv_at hl 2 rfl) ?_
        obtain ⟨g6, hm⟩ := g_no hm
        refine aI X hI (la_140 hn) g6 dX12_isSo_24 ?_
        refine lv_iconst (v := (-1 : Int32)) hx hb dX12_isSo_25 (by decide) ?_
        refine lv_icmp_ne (tgt := 81) hx hb dX12_isSo_26 (by decide) (fun c7 => ?_) (fun c7 => ?_)
        · have hm := g_f c7 hm
          refine lv_iinc (v := (x2 + (1 : Int32))) (lv' := [(2, .int (x2 + (1 : Int32))), (0, .ref (ad 99)), (1, .int x1)]) hx hb dX12_isSo_81 hl (k := 2) rfl rfl (by decide) rfl (fun ls hl => ?_)
          refine lv_goto (tgt := 2) hx hb dX12_isSo_84 (by decide) ?_
          exact ih x1 (x2 + (1 : Int32)) m H locs ls hI (lv_sub hl [1, 2, 0] rfl) hm hpm
        · have hm := g_t c7 hm
          refine lv_aload_n hx hb dX12_isSo_29 rfl (lv_at hl 0 rfl) ?_
          refine gR X hI fdX12_129 (la_99 hn) rf12_60 dX12_isSo_30 ?_
          refine lv_iload_n hx hb dX12_isSo_33 rfl (lv_at hl 2 rfl) ?_
          obtain ⟨g8, hm⟩ := g_no hm
          refine aI X hI (la_136 hn) g8 dX12_isSo_34 ?_
          refine lv_iload_n hx hb dX12_isSo_35 rfl (lv_at hl 1 rfl) ?_
          refine lv_icmp_eq (tgt := 42) hx hb dX12_isSo_36 (by decide) (fun c9 => ?_) (fun c9 => ?_)
          · have hm := g_t c9 hm
            refine lv_aload_n hx hb dX12_isSo_42 rfl (lv_at hl 0 rfl) ?_
            refine gR X hI fdX12_108 (la_99 hn) rf12_47 dX12_isSo_43 ?_
            refine lv_bipush (v := (6 : Int32)) hx hb dX12_isSo_46 (by decide) ?_
            refine lv_aload_n hx hb dX12_isSo_48 rfl (lv_at hl 0 rfl) ?_
            refine gR X hI fdX12_132 (la_99 hn) rf12_61 dX12_isSo_49 ?_
            refine lv_iload_n hx hb dX12_isSo_52 rfl (lv_at hl 2 rfl) ?_
            obtain ⟨g10, hm⟩ := g_no hm
            refine aI X hI (la_137 hn) g10 dX12_isSo_53 ?_
            refine lv_iadd hx hb dX12_isSo_54 ?_
            obtain ⟨g11, hm⟩ := g_no hm
            refine aI X hI (la_131 hn) g11 dX12_isSo_55 ?_
            refine lv_aload_n hx hb dX12_isSo_56 rfl (lv_at hl 0 rfl) ?_
            refine gR X hI fdX12_135 (la_99 hn) rf12_62 dX12_isSo_57 ?_
            refine lv_iload_n hx hb dX12_isSo_60 rfl (lv_at hl 2 rfl) ?_
            obtain ⟨g12, hm⟩ := g_no hm
            refine aI X hI (la_138 hn) g12 dX12_isSo_61 ?_
            refine lv_icmp_lt (tgt := 69) hx hb dX12_isSo_62 (by decide) (fun c13 => ?_) (fun c13 => ?_)
            · have hm := g_t c13 hm
              refine lv_iconst (v := (0 : Int32)) hx hb dX12_isSo_69 (by decide) ?_
              exact tX12_isSo_70 N hn X hr fin m0 ih x1 x2 (0 : Int32) m H locs ls hI (lv_sub hl [0, 1, 2] rfl) hm hpm
            · have hm := g_f c13 hm
              refine lv_iconst (v := (1 : Int32)) hx hb dX12_isSo_65 (by decide) ?_
              refine lv_goto (tgt := 70) hx hb dX12_isSo_66 (by decide) ?_
              exact tX12_isSo_70 N hn X hr fin m0 ih x1 x2 (1 : Int32) m H locs ls hI (lv_sub hl [0, 1, 2] rfl) hm hpm
          · have hm := g_f c9 hm
            refine lv_goto (tgt := 81) hx hb dX12_isSo_39 (by decide) ?_
            refine lv_iinc (v := (x2 + (1 : Int32))) (lv' := [(2, .int (x2 + (1 : Int32))), (0, .ref (ad 99)), (1, .int x1)]) hx hb dX12_isSo_81 hl (k := 2) rfl rfl (by decide) rfl (fun ls hl => ?_)
            refine lv_goto (tgt := 2) hx hb dX12_isSo_84 (by decide) ?_
            exact ih x1 (x2 + (1 : Int32)) m H locs ls hI (lv_sub hl [1, 2, 0] rfl) hm hpm
def fX12_isSo (N : Nat) (x1 : Int32) (m : Mem) : Option Int32 := fX12_isSo_2 N N x1 (0 : Int32) m
set_option maxHeartbeats 4000000 in
set_option maxRecDepth 100000 in
theorem ctX12_isSo {l : Launch} {D : va_G} {ca : Nat → ClassId} {ad : Nat → Nat} (N : Nat) (x1 : Int32)  (hn : HNr ca) (m : Mem) (fin : Int32) (hm : fX12_isSo N x1 m = some fin) : CI l D ca ad yX12_isSo cwX12_isSo rmX12_isSo [.ref (ad 99), .int x1] m fin m := by
  refine start (by decide) (Nat.le_of_ble_eq_true rfl) ?_
  intro p e s mm args below meth c H locs ls X hI hr hl
  have X : CX p s mm args meth c cX12_isSo 3 RX12 D ca ad (WA ca ad s.heap.size) := X
  have hx := X.1
  have hb := X.2.1
  have hl : lv_has ls 3 [(0, .ref (ad 99)), (1, .int x1)] := hl
  have hm : (fX12_isSo_2 N N x1 (0 : Int32) m) = some fin := hm
  have hpm : m = m := rfl
  refine lv_iconst (v := (0 : Int32)) hx hb dX12_isSo_0 (by decide) ?_
  refine lv_istore_n (lv' := [(2, .int (0 : Int32)), (0, .ref (ad 99)), (1, .int x1)]) hx hb dX12_isSo_1 rfl hl (by decide) rfl (fun ls hl => ?_)
  exact tX12_isSo_2 N hn X hr fin m  N x1 (0 : Int32) m H locs ls hI (lv_sub hl [1, 2, 0] rfl) hm hpm
abbrev rmX12_startsWith : Room := { frames := 1, cells := 0, slots := 0, locals := 23 }
def fX12_startsWith (N : Nat) (x1 : Int32) (x2 : Int32) (m : Mem) : Option Mem := (fX12_starts N (1 : Int32) m).bind (fun q1 => if ((6 : Int32) + x1) < 0 ∨ 138 ≤ ((6 : Int32) + x1).toNatClampNeg then none else (some (mI q1 128 ((6 : Int32) + x1).toNatClampNeg x2)))
set_option maxHeartbeats 4000000 in
set_option maxRecDepth 100000 in
theorem ctX12_startsWith {l : Launch} {D : va_G} {ca : Nat → ClassId} {ad : Nat → Nat} (N : Nat) (x1 : Int32) (x2 : Int32)  (hn : HNr ca) (m : Mem) (fin : Mem) (hm : fX12_startsWith N x1 x2 m = some fin) : CV l D ca ad yX12_startsWith cwX12_startsWith rmX12_startsWith [.ref (ad 99), .int x1, .int x2] m fin := by
  refine start (by decide) (Nat.le_of_ble_eq_true rfl) ?_
  intro p e s mm args below meth c H locs ls X hI hr hl
  have X : CX p s mm args meth c cX12_startsWith 3 RX12 D ca ad (WA ca ad s.heap.size) := X
  have hx := X.1
  have hb := X.2.1
  have hl : lv_has ls 3 [(0, .ref (ad 99)), (1, .int x1), (2, .int x2)] := hl
  have hm : ((fX12_starts N (1 : Int32) m).bind (fun q1 => if ((6 : Int32) + x1) < 0 ∨ 138 ≤ ((6 : Int32) + x1).toNatClampNeg then none else (some (mI q1 128 ((6 : Int32) + x1).toNatClampNeg x2)))) = some fin := hm
  refine lv_aload_n hx hb dX12_startsWith_0 rfl (lv_at hl 0 rfl) ?_
  refine lv_iconst (v := (1 : Int32)) hx hb dX12_startsWith_1 (by decide) ?_
  obtain ⟨q1, h2, hm⟩ := g_b hm
  refine backV X hI (runV X hI (ctX12_starts N (1 : Int32)  hn _ _ h2 _) mdX12_340 (la_99 hn) rfl ⟨rfl, rfl⟩ ⟨Nat.le_of_ble_eq_true rfl, Nat.le_of_ble_eq_true rfl⟩ rfl hl.1 rfl (Nat.le_of_ble_eq_true rfl) dX12_startsWith_2) (fun H locs hI => ?_)
  refine lv_aload_n hx hb dX12_startsWith_5 rfl (lv_at hl 0 rfl) ?_
  refine gR X hI fdX12_99 (la_99 hn) rf12_44 dX12_startsWith_6 ?_
  refine lv_bipush (v := (6 : Int32)) hx hb dX12_startsWith_9 (by decide) ?_
  refine lv_iload_n hx hb dX12_startsWith_11 rfl (lv_at hl 1 rfl) ?_
  refine lv_iadd hx hb dX12_startsWith_12 ?_
  refine lv_iload_n hx hb dX12_startsWith_13 rfl (lv_at hl 2 rfl) ?_
  obtain ⟨g3, hm⟩ := g_no hm
  refine sI X hI (la_128 hn) g3 dX12_startsWith_14 (fun H locs hI => ?_)
  exact rV X hI hr (g_1 hm) dX12_startsWith_15
abbrev rmX12_fitsBorne : Room := { frames := 6, cells := 0, slots := 0, locals := 145 }
def fX12_fitsBorne_9 (N : Nat) : Nat → Int32 → Int32 → Mem → Option (Int32 × Mem)
  | 0, _, _, _ => none
  | n + 1, x3, x4, m => if x3 < x4 then (some ((1 : Int32), m)) else ((fX12_passes N (1 : Int32) (0 : Int32) m).bind (fun q4 => (fX12_isSo N x4 q4).bind (fun q6 => if q6 = 0 then (some ((0 : Int32), q4)) else (fX12_fitsBorne_9 N n x3 (x4 + (1 : Int32)) q4))))
set_option maxHeartbeats 4000000 in
set_option maxRecDepth 100000 in
theorem tX12_fitsBorne_9 (N : Nat) {l : Launch} {D : va_G} {ca : Nat → ClassId} {ad : Nat → Nat} {p : Program} {e : Env} {s : State} {mm : MethodId} {args : Array Value} {below : List Frame} {meth : Method} {c : Code}  (hn : HNr ca) (X : CX p s mm args meth c cX12_fitsBorne 5 RX12 D ca ad (WA ca ad s.heap.size)) (hr : meth.sig.returnType = (some .boolean)) (fin : (Int32 × Mem))  : ∀ (n : Nat) (x3 : Int32) (x4 : Int32) (m : Mem) (H : Heap) (locs : List Loc) (ls : Array Slot), IW D ca ad (WA ca ad s.heap.size) s m H locs → lv_has ls 5 [(0, .ref (ad 99)), (3, .int x3), (4, .int x4)] → fX12_fitsBorne_9 N n x3 x4 m = some fin → W p l e rmX12_fitsBorne s mm args below meth c H locs 0 0 (MQ below (QI D ca ad s.heap.size fin.1 fin.2) args s 0 0 (WA ca ad s.heap.size)) (F0 mm 9 ls []) := by
  have hx := X.1
  have hb := X.2.1
  intro n
  induction n with
  | zero => intro x3 x4 m H locs ls hI hl hm
            exact absurd hm (by intro q; cases q)
  | succ n ih =>
    intro x3 x4 m H locs ls hI hl hm
    have hm : (if x3 < x4 then (some ((1 : Int32), m)) else ((fX12_passes N (1 : Int32) (0 : Int32) m).bind (fun q4 => (fX12_isSo N x4 q4).bind (fun q6 => if q6 = 0 then (some ((0 : Int32), q4)) else (fX12_fitsBorne_9 N n x3 (x4 + (1 : Int32)) q4))))) = some fin := hm
    refine lv_iload hx hb dX12_fitsBorne_9 (lv_at hl 2 rfl) ?_
    refine lv_iload_n hx hb dX12_fitsBorne_11 rfl (lv_at hl 1 rfl) ?_
    refine lv_icmp_gt (tgt := 38) hx hb dX12_fitsBorne_12 (by decide) (fun c3 => ?_) (fun c3 => ?_)
    · have hm := g_t c3 hm
      refine lv_iconst (v := (1 : Int32)) hx hb dX12_fitsBorne_38 (by decide) ?_
      exact rZ X hI hr (by decide) (g_p hm).1 (g_p hm).2 dX12_fitsBorne_39
    · have hm := g_f c3 hm
      refine lv_aload_n hx hb dX12_fitsBorne_15 rfl (lv_at hl 0 rfl) ?_
      refine lv_iconst (v := (1 : Int32)) hx hb dX12_fitsBorne_16 (by decide) ?_
      refine lv_iconst (v := (0 : Int32)) hx hb dX12_fitsBorne_17 (by decide) ?_
      obtain ⟨q4, h5, hm⟩ := g_b hm
      refine backV X hI (runV X hI (ctX12_passes N (1 : Int32) (0 : Int32)  hn _ _ h5 _) mdX12_409 (la_99 hn) rfl ⟨rfl, rfl⟩ ⟨Nat.le_of_ble_eq_true rfl, Nat.le_of_ble_eq_true rfl⟩ rfl hl.1 rfl (Nat.le_of_ble_eq_true rfl) dX12_fitsBorne_18) (fun H locs hI => ?_)
      refine lv_aload_n hx hb dX12_fitsBorne_21 rfl (lv_at hl 0 rfl) ?_
      refine lv_iload hx hb dX12_fitsBorne_22 (lv_at hl 2 rfl) ?_
      obtain ⟨q6, h7, hm⟩ := g_b hm
      refine backI X hI (runV X hI (ctX12_isSo N x4  hn _ _ h7 _) mdX12_488 (la_99 hn) rfl ⟨rfl, rfl⟩ ⟨Nat.le_of_ble_eq_true rfl, Nat.le_of_ble_eq_true rfl⟩ rfl hl.1 rfl (Nat.le_of_ble_eq_true rfl) dX12_fitsBorne_24) (fun H locs hI => ?_)
      refine lv_if_ne (tgt := 32) hx hb dX12_fitsBorne_27 (by decide) (fun c8 => ?_) (fun c8 => ?_)
      · have hm := g_f c8 hm
        refine lv_iinc (v := (x4 + (1 : Int32))) (lv' := [(4, .int (x4 + (1 : Int32))), (0, .ref (ad 99)), (3, .int x3)]) hx hb dX12_fitsBorne_32 hl (k := 2) rfl rfl (by decide) rfl (fun ls hl => ?_)
        refine lv_goto (tgt := 9) hx hb dX12_fitsBorne_35 (by decide) ?_
        exact ih x3 (x4 + (1 : Int32)) q4 H locs ls hI (lv_sub hl [1, 2, 0] rfl) hm
      · have hm := g_t c8 hm
        refine lv_iconst (v := (0 : Int32)) hx hb dX12_fitsBorne_30 (by decide) ?_
        exact rZ X hI hr (by decide) (g_p hm).1 (g_p hm).2 dX12_fitsBorne_31
def fX12_fitsBorne (N : Nat) (x1 : Int32) (x2 : Int32) (x3 : Int32) (m : Mem) : Option (Int32 × Mem) := (fX12_startsWith N x1 x2 m).bind (fun q1 => fX12_fitsBorne_9 N N x3 (1 : Int32) q1)
set_option maxHeartbeats 4000000 in
set_option maxRecDepth 100000 in
theorem ctX12_fitsBorne {l : Launch} {D : va_G} {ca : Nat → ClassId} {ad : Nat → Nat} (N : Nat) (x1 : Int32) (x2 : Int32) (x3 : Int32)  (hn : HNr ca) (m : Mem) (fin : (Int32 × Mem)) (hm : fX12_fitsBorne N x1 x2 x3 m = some fin) : CI l D ca ad yX12_fitsBorne cwX12_fitsBorne rmX12_fitsBorne [.ref (ad 99), .int x1, .int x2, .int x3] m fin.1 fin.2 := by
  refine start (by decide) (Nat.le_of_ble_eq_true rfl) ?_
  intro p e s mm args below meth c H locs ls X hI hr hl
  have X : CX p s mm args meth c cX12_fitsBorne 5 RX12 D ca ad (WA ca ad s.heap.size) := X
  have hx := X.1
  have hb := X.2.1
  have hl : lv_has ls 5 [(0, .ref (ad 99)), (1, .int x1), (2, .int x2), (3, .int x3)] := hl
  have hm : ((fX12_startsWith N x1 x2 m).bind (fun q1 => fX12_fitsBorne_9 N N x3 (1 : Int32) q1)) = some fin := hm
  refine lv_aload_n hx hb dX12_fitsBorne_0 rfl (lv_at hl 0 rfl) ?_
  refine lv_iload_n hx hb dX12_fitsBorne_1 rfl (lv_at hl 1 rfl) ?_
  refine lv_iload_n hx hb dX12_fitsBorne_2 rfl (lv_at hl 2 rfl) ?_
  obtain ⟨q1, h2, hm⟩ := g_b hm
  refine backV X hI (runV X hI (ctX12_startsWith N x1 x2  hn _ _ h2 _) mdX12_485 (la_99 hn) rfl ⟨rfl, rfl⟩ ⟨Nat.le_of_ble_eq_true rfl, Nat.le_of_ble_eq_true rfl⟩ rfl hl.1 rfl (Nat.le_of_ble_eq_true rfl) dX12_fitsBorne_3) (fun H locs hI => ?_)
  refine lv_iconst (v := (1 : Int32)) hx hb dX12_fitsBorne_6 (by decide) ?_
  refine lv_istore (lv' := [(4, .int (1 : Int32)), (0, .ref (ad 99)), (1, .int x1), (2, .int x2), (3, .int x3)]) hx hb dX12_fitsBorne_7 hl (by decide) rfl (fun ls hl => ?_)
  exact tX12_fitsBorne_9 N hn X hr fin  N x3 (1 : Int32) q1 H locs ls hI (lv_sub hl [1, 4, 0] rfl) hm
abbrev rmX12_borneBy : Room := { frames := 7, cells := 0, slots := 0, locals := 169 }
def fX12_borneBy_124 (N : Nat) : Nat → Int32 → Int32 → Int32 → Int32 → Mem → Option (Int32 × Mem)
  | 0, _, _, _, _, _ => none
  | n + 1, x1, x2, x3, x4, m => if (10 : Int32) ≤ x4 then (some (x3, m)) else ((fX12_fitsBorne N x1 ((10 : Int32) * x4) x2 m).bind (fun q4 => if q4.1 = 0 then (fX12_borneBy_124 N n x1 x2 (x3 ||| (0 : Int32)) (x4 + (1 : Int32)) q4.2) else (fX12_borneBy_124 N n x1 x2 (x3 ||| ((1 : Int32) <<< (x4 &&& 31))) (x4 + (1 : Int32)) q4.2)))
set_option maxHeartbeats 4000000 in
set_option maxRecDepth 100000 in
theorem tX12_borneBy_124 (N : Nat) {l : Launch} {D : va_G} {ca : Nat → ClassId} {ad : Nat → Nat} {p : Program} {e : Env} {s : State} {mm : MethodId} {args : Array Value} {below : List Frame} {meth : Method} {c : Code}  (hn : HNr ca) (X : CX p s mm args meth c cX12_borneBy 5 RX12 D ca ad (WA ca ad s.heap.size)) (hr : meth.sig.returnType = (some .int)) (fin : (Int32 × Mem))  : ∀ (n : Nat) (x1 : Int32) (x2 : Int32) (x3 : Int32) (x4 : Int32) (m : Mem) (H : Heap) (locs : List Loc) (ls : Array Slot), IW D ca ad (WA ca ad s.heap.size) s m H locs → lv_has ls 5 [(0, .ref (ad 99)), (1, .int x1), (2, .int x2), (3, .int x3), (4, .int x4)] → fX12_borneBy_124 N n x1 x2 x3 x4 m = some fin → W p l e rmX12_borneBy s mm args below meth c H locs 0 0 (MQ below (QI D ca ad s.heap.size fin.1 fin.2) args s 0 0 (WA ca ad s.heap.size)) (F0 mm 124 ls []) := by
  have hx := X.1
  have hb := X.2.1
  intro n
  induction n with
  | zero => intro x1 x2 x3 x4 m H locs ls hI hl hm
            exact absurd hm (by intro q; cases q)
  | succ n ih =>
    intro x1 x2 x3 x4 m H locs ls hI hl hm
    have hm : (if (10 : Int32) ≤ x4 then (some (x3, m)) else ((fX12_fitsBorne N x1 ((10 : Int32) * x4) x2 m).bind (fun q4 => if q4.1 = 0 then (fX12_borneBy_124 N n x1 x2 (x3 ||| (0 : Int32)) (x4 + (1 : Int32)) q4.2) else (fX12_borneBy_124 N n x1 x2 (x3 ||| ((1 : Int32) <<< (x4 &&& 31))) (x4 + (1 : Int32)) q4.2)))) = some fin := hm
    refine lv_iload hx hb dX12_borneBy_124 (lv_at hl 4 rfl) ?_
    refine lv_bipush (v := (10 : Int32)) hx hb dX12_borneBy_126 (by decide) ?_
    refine lv_icmp_ge (tgt := 162) hx hb dX12_borneBy_128 (by decide) (fun c3 => ?_) (fun c3 => ?_)
    · have hm := g_t c3 hm
      refine lv_iload_n hx hb dX12_borneBy_162 rfl (lv_at hl 3 rfl) ?_
      exact rI X hI hr (g_p hm).1 (g_p hm).2 dX12_borneBy_163
    · have hm := g_f c3 hm
      refine lv_iload_n hx hb dX12_borneBy_131 rfl (lv_at hl 3 rfl) ?_
      refine lv_aload_n hx hb dX12_borneBy_132 rfl (lv_at hl 0 rfl) ?_
      refine lv_iload_n hx hb dX12_borneBy_133 rfl (lv_at hl 1 rfl) ?_
      refine lv_bipush (v := (10 : Int32)) hx hb dX12_borneBy_134 (by decide) ?_
      refine lv_iload hx hb dX12_borneBy_136 (lv_at hl 4 rfl) ?_
      refine lv_imul hx hb dX12_borneBy_138 ?_
      refine lv_iload_n hx hb dX12_borneBy_139 rfl (lv_at hl 2 rfl) ?_
      obtain ⟨q4, h5, hm⟩ := g_b hm
      refine backI X hI (runV X hI (ctX12_fitsBorne N x1 ((10 : Int32) * x4) x2  hn _ _ h5 _) mdX12_491 (la_99 hn) rfl ⟨rfl, rfl⟩ ⟨Nat.le_of_ble_eq_true rfl, Nat.le_of_ble_eq_true rfl⟩ rfl hl.1 rfl (Nat.le_of_ble_eq_true rfl) dX12_borneBy_140) (fun H locs hI => ?_)
      refine lv_if_eq (tgt := 153) hx hb dX12_borneBy_143 (by decide) (fun c6 => ?_) (fun c6 => ?_)
      · have hm := g_t c6 hm
        refine lv_iconst (v := (0 : Int32)) hx hb dX12_borneBy_153 (by decide) ?_
        refine lv_ior hx hb dX12_borneBy_154 ?_
        refine lv_istore_n (lv' := [(3, .int (x3 ||| (0 : Int32))), (0, .ref (ad 99)), (1, .int x1), (2, .int x2), (4, .int x4)]) hx hb dX12_borneBy_155 rfl hl (by decide) rfl (fun ls hl => ?_)
        refine lv_iinc (v := (x4 + (1 : Int32))) (lv' := [(4, .int (x4 + (1 : Int32))), (3, .int (x3 ||| (0 : Int32))), (0, .ref (ad 99)), (1, .int x1), (2, .int x2)]) hx hb dX12_borneBy_156 hl (k := 4) rfl rfl (by decide) rfl (fun ls hl => ?_)
        refine lv_goto (tgt := 124) hx hb dX12_borneBy_159 (by decide) ?_
        exact ih x1 x2 (x3 ||| (0 : Int32)) (x4 + (1 : Int32)) q4.2 H locs ls hI (lv_sub hl [2, 3, 4, 1, 0] rfl) hm
      · have hm := g_f c6 hm
        refine lv_iconst (v := (1 : Int32)) hx hb dX12_borneBy_146 (by decide) ?_
        refine lv_iload hx hb dX12_borneBy_147 (lv_at hl 4 rfl) ?_
        refine lv_ishl hx hb dX12_borneBy_149 ?_
        refine lv_goto (tgt := 154) hx hb dX12_borneBy_150 (by decide) ?_
        refine lv_ior hx hb dX12_borneBy_154 ?_
        refine lv_istore_n (lv' := [(3, .int (x3 ||| ((1 : Int32) <<< (x4 &&& 31)))), (0, .ref (ad 99)), (1, .int x1), (2, .int x2), (4, .int x4)]) hx hb dX12_borneBy_155 rfl hl (by decide) rfl (fun ls hl => ?_)
        refine lv_iinc (v := (x4 + (1 : Int32))) (lv' := [(4, .int (x4 + (1 : Int32))), (3, .int (x3 ||| ((1 : Int32) <<< (x4 &&& 31)))), (0, .ref (ad 99)), (1, .int x1), (2, .int x2)]) hx hb dX12_borneBy_156 hl (k := 4) rfl rfl (by decide) rfl (fun ls hl => ?_)
        refine lv_goto (tgt := 124) hx hb dX12_borneBy_159 (by decide) ?_
        exact ih x1 x2 (x3 ||| ((1 : Int32) <<< (x4 &&& 31))) (x4 + (1 : Int32)) q4.2 H locs ls hI (lv_sub hl [2, 3, 4, 1, 0] rfl) hm
def fX12_borneBy_119 (N : Nat) (x1 : Int32) (x2 : Int32) (m : Mem) : Option (Int32 × Mem) := fX12_borneBy_124 N N x1 x2 (0 : Int32) (0 : Int32) m
set_option maxHeartbeats 4000000 in
set_option maxRecDepth 100000 in
theorem tX12_borneBy_119 (N : Nat) {l : Launch} {D : va_G} {ca : Nat → ClassId} {ad : Nat → Nat} {p : Program} {e : Env} {s : State} {mm : MethodId} {args : Array Value} {below : List Frame} {meth : Method} {c : Code}  (hn : HNr ca) (X : CX p s mm args meth c cX12_borneBy 5 RX12 D ca ad (WA ca ad s.heap.size)) (hr : meth.sig.returnType = (some .int)) (fin : (Int32 × Mem))  : ∀ (x1 : Int32) (x2 : Int32) (m : Mem) (H : Heap) (locs : List Loc) (ls : Array Slot), IW D ca ad (WA ca ad s.heap.size) s m H locs → lv_has ls 5 [(0, .ref (ad 99)), (1, .int x1), (2, .int x2)] → fX12_borneBy_119 N x1 x2 m = some fin → W p l e rmX12_borneBy s mm args below meth c H locs 0 0 (MQ below (QI D ca ad s.heap.size fin.1 fin.2) args s 0 0 (WA ca ad s.heap.size)) (F0 mm 119 ls []) := by
  have hx := X.1
  have hb := X.2.1
  intro x1 x2 m H locs ls hI hl hm
  have hm : (fX12_borneBy_124 N N x1 x2 (0 : Int32) (0 : Int32) m) = some fin := hm
  refine lv_iconst (v := (0 : Int32)) hx hb dX12_borneBy_119 (by decide) ?_
  refine lv_istore_n (lv' := [(3, .int (0 : Int32)), (0, .ref (ad 99)), (1, .int x1), (2, .int x2)]) hx hb dX12_borneBy_120 rfl hl (by decide) rfl (fun ls hl => ?_)
  refine lv_iconst (v := (0 : Int32)) hx hb dX12_borneBy_121 (by decide) ?_
  refine lv_istore (lv' := [(4, .int (0 : Int32)), (3, .int (0 : Int32)), (0, .ref (ad 99)), (1, .int x1), (2, .int x2)]) hx hb dX12_borneBy_122 hl (by decide) rfl (fun ls hl => ?_)
  exact tX12_borneBy_124 N hn X hr fin  N x1 x2 (0 : Int32) (0 : Int32) m H locs ls hI (lv_sub hl [2, 3, 4, 1, 0] rfl) hm
def fX12_borneBy_75 (N : Nat) (k119 : Int32 → Int32 → Mem → Option (Int32 × Mem)) : Nat → Int32 → Int32 → Int32 → Mem → Option (Int32 × Mem)
  | 0, _, _, _, _ => none
  | n + 1, x1, x2, x3, m => (fX12_knownMany  m).bind (fun q7 => if q7 ≤ x3 then (k119 x1 x2 m) else (if x3 < 0 ∨ 24 ≤ x3.toNatClampNeg then none else (if (m.1 141 x3.toNatClampNeg) = 0 then (if x3 < 0 ∨ 24 ≤ x3.toNatClampNeg then none else (if (m.1 140 x3.toNatClampNeg) = (-1 : Int32) then (if x3 < 0 ∨ 24 ≤ x3.toNatClampNeg then none else (fX12_borneBy_75 N k119 n x1 (imax x2 (m.1 136 x3.toNatClampNeg)) (x3 + (1 : Int32)) m)) else (fX12_borneBy_75 N k119 n x1 x2 (x3 + (1 : Int32)) m))) else (fX12_borneBy_75 N k119 n x1 x2 (x3 + (1 : Int32)) m))))
set_option maxHeartbeats 4000000 in
set_option maxRecDepth 100000 in
theorem tX12_borneBy_75 (N : Nat) {l : Launch} {D : va_G} {ca : Nat → ClassId} {ad : Nat → Nat} {p : Program} {e : Env} {s : State} {mm : MethodId} {args : Array Value} {below : List Frame} {meth : Method} {c : Code} {k119 : Int32 → Int32 → Mem → Option (Int32 × Mem)} (hn : HNr ca) (X : CX p s mm args meth c cX12_borneBy 5 RX12 D ca ad (WA ca ad s.heap.size)) (hr : meth.sig.returnType = (some .int)) (fin : (Int32 × Mem)) (hk119 : ∀ (x1 : Int32) (x2 : Int32) (m : Mem) (H : Heap) (locs : List Loc) (ls : Array Slot), IW D ca ad (WA ca ad s.heap.size) s m H locs → lv_has ls 5 [(0, .ref (ad 99)), (1, .int x1), (2, .int x2)] → k119 x1 x2 m = some fin → W p l e rmX12_borneBy s mm args below meth c H locs 0 0 (MQ below (QI D ca ad s.heap.size fin.1 fin.2) args s 0 0 (WA ca ad s.heap.size)) (F0 mm 119 ls [])) : ∀ (n : Nat) (x1 : Int32) (x2 : Int32) (x3 : Int32) (m : Mem) (H : Heap) (locs : List Loc) (ls : Array Slot), IW D ca ad (WA ca ad s.heap.size) s m H locs → lv_has ls 5 [(0, .ref (ad 99)), (1, .int x1), (2, .int x2), (3, .int x3)] → fX12_borneBy_75 N k119 n x1 x2 x3 m = some fin → W p l e rmX12_borneBy s mm args below meth c H locs 0 0 (MQ below (QI D ca ad s.heap.size fin.1 fin.2) args s 0 0 (WA ca ad s.heap.size)) (F0 mm 75 ls []) := by
  have hx := X.1
  have hb := X.2.1
  intro n
  induction n with
  | zero => intro x1 x2 x3 m H locs ls hI hl hm
            exact absurd hm (by intro q; cases q)
  | succ n ih =>
    intro x1 x2 x3 m H locs ls hI hl hm
    have hm : ((fX12_knownMany  m).bind (fun q7 => if q7 ≤ x3 then (k119 x1 x2 m) else (if x3 < 0 ∨ 24 ≤ x3.toNatClampNeg then none else (if (m.1 141 x3.toNatClampNeg) = 0 then (if x3 < 0 ∨ 24 ≤ x3.toNatClampNeg then none else (if (m.1 140 x3.toNatClampNeg) = (-1 : Int32) then (if x3 < 0 ∨ 24 ≤ x3.toNatClampNeg then none else (fX12_borneBy_75 N k119 n x1 (imax x2 (m.1 136 x3.toNatClampNeg)) (x3 + (1 : Int32)) m)) else (fX12_borneBy_75 N k119 n x1 x2 (x3 + (1 : Int32)) m))) else (fX12_borneBy_75 N k119 n x1 x2 (x3 + (1 : Int32)) m))))) = some fin := hm
    refine lv_iload_n hx hb dX12_borneBy_75 rfl (lv_at hl 3 rfl) ?_
    refine lv_aload_n hx hb dX12_borneBy_76 rfl (lv_at hl 0 rfl) ?_
    obtain ⟨q7, h8, hm⟩ := g_b hm
    refine backI X hI (runV X hI (ctX12_knownMany   hn _ _ h8 _) mdX12_482 (la_99 hn) rfl ⟨rfl, rfl⟩ ⟨Nat.le_of_ble_eq_true rfl, Nat.le_of_ble_eq_true rfl⟩ rfl hl.1 rfl (Nat.le_of_ble_eq_true rfl) dX12_borneBy_77) (fun H locs hI => ?_)
    refine lv_icmp_ge (tgt := 119) hx hb dX12_borneBy_80 (by decide) (fun c9 => ?_) (fun c9 => ?_)
    · have hm := g_t c9 hm
      exact hk119 x1 x2 m H locs ls hI (lv_sub hl [0, 1, 2] rfl) hm
    · have hm := g_f c9 hm
      refine lv_aload_n hx hb dX12_borneBy_83 rfl (lv_at hl 0 rfl) ?_
      refine gR X hI fdX12_145 (la_99 hn) rf12_65 dX12_borneBy_84 ?_
      refine lv_iload_n hx hb dX12_borneBy_87 rfl (lv_at hl 3 rfl) ?_
      obtain ⟨g10, hm⟩ := g_no hm
      refine aZ X hI (la_141 hn) g10 dX12_borneBy_88 ?_
      refine lv_if_ne (tgt := 113) hx hb dX12_borneBy_89 (by decide) (fun c11 => ?_) (fun c11 => ?_)
      · have hm := g_f c11 hm
        refine lv_iinc (v := (x3 + (1 : Int32))) (lv' := [(3, .int (x3 + (1 : Int32))), (0, .ref (ad 99)), (1, .int x1), (2, .int x2)]) hx hb dX12_borneBy_113 hl (k := 3) rfl rfl (by decide) rfl (fun ls hl => ?_)
        refine lv_goto (tgt := 75) hx hb dX12_borneBy_116 (by decide) ?_
        exact ih x1 x2 (x3 + (1 : Int32)) m H locs ls hI (lv_sub hl [1, 2, 3, 0] rfl) hm
      · have hm := g_t c11 hm
        refine lv_aload_n hx hb dX12_borneBy_92 rfl (lv_at hl 0 rfl) ?_
        refine gR X hI fdX12_142 (la_99 hn) rf12_64 dX12_borneBy_93 ?_
        refine lv_iload_n hx hb dX12_borneBy_96 rfl (lv_at hl 3 rfl) ?_
        obtain ⟨g12, hm⟩ := g_no hm
        refine aI X hI (la_140 hn) g12 dX12_borneBy_97 ?_
        refine lv_iconst (v := (-1 : Int32)) hx hb dX12_borneBy_98 (by decide) ?_
        refine lv_icmp_ne (tgt := 113) hx hb dX12_borneBy_99 (by decide) (fun c13 => ?_) (fun c13 => ?_)
        · have hm := g_f c13 hm
          refine lv_iinc (v := (x3 + (1 : Int32))) (lv' := [(3, .int (x3 + (1 : Int32))), (0, .ref (ad 99)), (1, .int x1), (2, .int x2)]) hx hb dX12_borneBy_113 hl (k := 3) rfl rfl (by decide) rfl (fun ls hl => ?_)
          refine lv_goto (tgt := 75) hx hb dX12_borneBy_116 (by decide) ?_
          exact ih x1 x2 (x3 + (1 : Int32)) m H locs ls hI (lv_sub hl [1, 2, 3, 0] rfl) hm
        · have hm := g_t c13 hm
          refine lv_iload_n hx hb dX12_borneBy_102 rfl (lv_at hl 2 rfl) ?_
          refine lv_aload_n hx hb dX12_borneBy_103 rfl (lv_at hl 0 rfl) ?_
          refine gR X hI fdX12_129 (la_99 hn) rf12_60 dX12_borneBy_104 ?_
          refine lv_iload_n hx hb dX12_borneBy_107 rfl (lv_at hl 3 rfl) ?_
          obtain ⟨g14, hm⟩ := g_no hm
          refine aI X hI (la_136 hn) g14 dX12_borneBy_108 ?_
          refine kMax X mpX12_370 hl.1 (Nat.le_of_ble_eq_true rfl) (Nat.le_of_ble_eq_true rfl) dX12_borneBy_109 ?_
          refine lv_istore_n (lv' := [(2, .int (imax x2 (m.1 136 x3.toNatClampNeg))), (0, .ref (ad 99)), (1, .int x1), (3, .int x3)]) hx hb dX12_borneBy_112 rfl hl (by decide) rfl (fun ls hl => ?_)
          refine lv_iinc (v := (x3 + (1 : Int32))) (lv' := [(3, .int (x3 + (1 : Int32))), (2, .int (imax x2 (m.1 136 x3.toNatClampNeg))), (0, .ref (ad 99)), (1, .int x1)]) hx hb dX12_borneBy_113 hl (k := 3) rfl rfl (by decide) rfl (fun ls hl => ?_)
          refine lv_goto (tgt := 75) hx hb dX12_borneBy_116 (by decide) ?_
          exact ih x1 (imax x2 (m.1 136 x3.toNatClampNeg)) (x3 + (1 : Int32)) m H locs ls hI (lv_sub hl [2, 3, 1, 0] rfl) hm
def fX12_borneBy_73 (N : Nat) (x1 : Int32) (x2 : Int32) (m : Mem) : Option (Int32 × Mem) := fX12_borneBy_75 N (fX12_borneBy_119 N) N x1 x2 (0 : Int32) m
set_option maxHeartbeats 4000000 in
set_option maxRecDepth 100000 in
theorem tX12_borneBy_73 (N : Nat) {l : Launch} {D : va_G} {ca : Nat → ClassId} {ad : Nat → Nat} {p : Program} {e : Env} {s : State} {mm : MethodId} {args : Array Value} {below : List Frame} {meth : Method} {c : Code}  (hn : HNr ca) (X : CX p s mm args meth c cX12_borneBy 5 RX12 D ca ad (WA ca ad s.heap.size)) (hr : meth.sig.returnType = (some .int)) (fin : (Int32 × Mem))  : ∀ (x1 : Int32) (x2 : Int32) (m : Mem) (H : Heap) (locs : List Loc) (ls : Array Slot), IW D ca ad (WA ca ad s.heap.size) s m H locs → lv_has ls 5 [(0, .ref (ad 99)), (1, .int x1), (2, .int x2)] → fX12_borneBy_73 N x1 x2 m = some fin → W p l e rmX12_borneBy s mm args below meth c H locs 0 0 (MQ below (QI D ca ad s.heap.size fin.1 fin.2) args s 0 0 (WA ca ad s.heap.size)) (F0 mm 73 ls []) := by
  have hx := X.1
  have hb := X.2.1
  intro x1 x2 m H locs ls hI hl hm
  have hm : (fX12_borneBy_75 N (fX12_borneBy_119 N) N x1 x2 (0 : Int32) m) = some fin := hm
  refine lv_iconst (v := (0 : Int32)) hx hb dX12_borneBy_73 (by decide) ?_
  refine lv_istore_n (lv' := [(3, .int (0 : Int32)), (0, .ref (ad 99)), (1, .int x1), (2, .int x2)]) hx hb dX12_borneBy_74 rfl hl (by decide) rfl (fun ls hl => ?_)
  exact tX12_borneBy_75 N hn X hr fin (tX12_borneBy_119 N hn X hr fin ) N x1 x2 (0 : Int32) m H locs ls hI (lv_sub hl [1, 2, 3, 0] rfl) hm
def fX12_borneBy_32 (N : Nat) (k73 : Int32 → Int32 → Mem → Option (Int32 × Mem)) : Nat → Int32 → Int32 → Int32 → Mem → Option (Int32 × Mem)
  | 0, _, _, _, _ => none
  | n + 1, x1, x2, x3, m => if x3 < 0 then (k73 x1 x2 m) else (if x3 < 0 ∨ 24 ≤ x3.toNatClampNeg then none else (if (m.1 141 x3.toNatClampNeg) = 0 then (if x3 < 0 ∨ 24 ≤ x3.toNatClampNeg then none else (if (m.1 140 x3.toNatClampNeg) = (-1 : Int32) then (fX12_borneBy_32 N k73 n x1 x2 (x3 + (-1 : Int32)) m) else (if x3 < 0 ∨ 24 ≤ x3.toNatClampNeg then none else (if (m.1 140 x3.toNatClampNeg) < 0 ∨ 24 ≤ (m.1 140 x3.toNatClampNeg).toNatClampNeg then none else (fX12_borneBy_32 N k73 n x1 x2 (x3 + (-1 : Int32)) (mI m 141 (m.1 140 x3.toNatClampNeg).toNatClampNeg (vp_nar .boolean (1 : Int32)))))))) else (fX12_borneBy_32 N k73 n x1 x2 (x3 + (-1 : Int32)) m)))
set_option maxHeartbeats 4000000 in
set_option maxRecDepth 100000 in
theorem tX12_borneBy_32 (N : Nat) {l : Launch} {D : va_G} {ca : Nat → ClassId} {ad : Nat → Nat} {p : Program} {e : Env} {s : State} {mm : MethodId} {args : Array Value} {below : List Frame} {meth : Method} {c : Code} {k73 : Int32 → Int32 → Mem → Option (Int32 × Mem)} (hn : HNr ca) (X : CX p s mm args meth c cX12_borneBy 5 RX12 D ca ad (WA ca ad s.heap.size)) (hr : meth.sig.returnType = (some .int)) (fin : (Int32 × Mem)) (hk73 : ∀ (x1 : Int32) (x2 : Int32) (m : Mem) (H : Heap) (locs : List Loc) (ls : Array Slot), IW D ca ad (WA ca ad s.heap.size) s m H locs → lv_has ls 5 [(0, .ref (ad 99)), (1, .int x1), (2, .int x2)] → k73 x1 x2 m = some fin → W p l e rmX12_borneBy s mm args below meth c H locs 0 0 (MQ below (QI D ca ad s.heap.size fin.1 fin.2) args s 0 0 (WA ca ad s.heap.size)) (F0 mm 73 ls [])) : ∀ (n : Nat) (x1 : Int32) (x2 : Int32) (x3 : Int32) (m : Mem) (H : Heap) (locs : List Loc) (ls : Array Slot), IW D ca ad (WA ca ad s.heap.size) s m H locs → lv_has ls 5 [(0, .ref (ad 99)), (1, .int x1), (2, .int x2), (3, .int x3)] → fX12_borneBy_32 N k73 n x1 x2 x3 m = some fin → W p l e rmX12_borneBy s mm args below meth c H locs 0 0 (MQ below (QI D ca ad s.heap.size fin.1 fin.2) args s 0 0 (WA ca ad s.heap.size)) (F0 mm 32 ls []) := by
  have hx := X.1
  have hb := X.2.1
  intro n
  induction n with
  | zero => intro x1 x2 x3 m H locs ls hI hl hm
            exact absurd hm (by intro q; cases q)
  | succ n ih =>
    intro x1 x2 x3 m H locs ls hI hl hm
    have hm : (if x3 < 0 then (k73 x1 x2 m) else (if x3 < 0 ∨ 24 ≤ x3.toNatClampNeg then none else (if (m.1 141 x3.toNatClampNeg) = 0 then (if x3 < 0 ∨ 24 ≤ x3.toNatClampNeg then none else (if (m.1 140 x3.toNatClampNeg) = (-1 : Int32) then (fX12_borneBy_32 N k73 n x1 x2 (x3 + (-1 : Int32)) m) else (if x3 < 0 ∨ 24 ≤ x3.toNatClampNeg then none else (if (m.1 140 x3.toNatClampNeg) < 0 ∨ 24 ≤ (m.1 140 x3.toNatClampNeg).toNatClampNeg then none else (fX12_borneBy_32 N k73 n x1 x2 (x3 + (-1 : Int32)) (mI m 141 (m.1 140 x3.toNatClampNeg).toNatClampNeg (vp_nar .boolean (1 : Int32)))))))) else (fX12_borneBy_32 N k73 n x1 x2 (x3 + (-1 : Int32)) m)))) = some fin := hm
    refine lv_iload_n hx hb dX12_borneBy_32 rfl (lv_at hl 3 rfl) ?_
    refine lv_if_lt (tgt := 73) hx hb dX12_borneBy_33 (by decide) (fun c15 => ?_) (fun c15 => ?_)
    · have hm := g_t c15 hm
      exact hk73 x1 x2 m H locs ls hI (lv_sub hl [0, 1, 2] rfl) hm
    · have hm := g_f c15 hm
      refine lv_aload_n hx hb dX12_borneBy_36 rfl (lv_at hl 0 rfl) ?_
      refine gR X hI fdX12_145 (la_99 hn) rf12_65 dX12_borneBy_37 ?_
      refine lv_iload_n hx hb dX12_borneBy_40 rfl (lv_at hl 3 rfl) ?_
      obtain ⟨g16, hm⟩ := g_no hm
      refine aZ X hI (la_141 hn) g16 dX12_borneBy_41 ?_
      refine lv_if_ne (tgt := 67) hx hb dX12_borneBy_42 (by decide) (fun c17 => ?_) (fun c17 => ?_)
      · have hm := g_f c17 hm
        refine lv_iinc (v := (x3 + (-1 : Int32))) (lv' := [(3, .int (x3 + (-1 : Int32))), (0, .ref (ad 99)), (1, .int x1), (2, .int x2)]) hx hb dX12_borneBy_67 hl (k := 3) rfl rfl (by decide) rfl (fun ls hl => ?_)
        refine lv_goto (tgt := 32) hx hb dX12_borneBy_70 (by decide) ?_
        exact ih x1 x2 (x3 + (-1 : Int32)) m H locs ls hI (lv_sub hl [1, 2, 3, 0] rfl) hm
      · have hm := g_t c17 hm
        refine lv_aload_n hx hb dX12_borneBy_45 rfl (lv_at hl 0 rfl) ?_
        refine gR X hI fdX12_142 (la_99 hn) rf12_64 dX12_borneBy_46 ?_
        refine lv_iload_n hx hb dX12_borneBy_49 rfl (lv_at hl 3 rfl) ?_
        obtain ⟨g18, hm⟩ := g_no hm
        refine aI X hI (la_140 hn) g18 dX12_borneBy_50 ?_
        refine lv_iconst (v := (-1 : Int32)) hx hb dX12_borneBy_51 (by decide) ?_
        refine lv_icmp_eq (tgt := 67) hx hb dX12_borneBy_52 (by decide) (fun c19 => ?_) (fun c19 => ?_)
        · have hm := g_t c19 hm
          refine lv_iinc (v := (x3 + (-1 : Int32))) (lv' := [(3, .int (x3 + (-1 : Int32))), (0, .ref (ad 99)), (1, .int x1), (2, .int x2)]) hx hb dX12_borneBy_67 hl (k := 3) rfl rfl (by decide) rfl (fun ls hl => ?_)
          refine lv_goto (tgt := 32) hx hb dX12_borneBy_70 (by decide) ?_
          exact ih x1 x2 (x3 + (-1 : Int32)) m H locs ls hI (lv_sub hl [1, 2, 3, 0] rfl) hm
        · have hm := g_f c19 hm
          refine lv_aload_n hx hb dX12_borneBy_55 rfl (lv_at hl 0 rfl) ?_
          refine gR X hI fdX12_145 (la_99 hn) rf12_65 dX12_borneBy_56 ?_
          refine lv_aload_n hx hb dX12_borneBy_59 rfl (lv_at hl 0 rfl) ?_
          refine gR X hI fdX12_142 (la_99 hn) rf12_64 dX12_borneBy_60 ?_
          refine lv_iload_n hx hb dX12_borneBy_63 rfl (lv_at hl 3 rfl) ?_
          obtain ⟨g20, hm⟩ := g_no hm
          refine aI X hI (la_140 hn) g20 dX12_borneBy_64 ?_
          refine lv_iconst (v := (1 : Int32)) hx hb dX12_borneBy_65 (by decide) ?_
          obtain ⟨g21, hm⟩ := g_no hm
          refine sZ X hI (la_141 hn) g21 dX12_borneBy_66 (fun H locs hI => ?_)
          refine lv_iinc (v := (x3 + (-1 : Int32))) (lv' := [(3, .int (x3 + (-1 : Int32))), (0, .ref (ad 99)), (1, .int x1), (2, .int x2)]) hx hb dX12_borneBy_67 hl (k := 3) rfl rfl (by decide) rfl (fun ls hl => ?_)
          refine lv_goto (tgt := 32) hx hb dX12_borneBy_70 (by decide) ?_
          exact ih x1 x2 (x3 + (-1 : Int32)) (mI m 141 (m.1 140 x3.toNatClampNeg).toNatClampNeg (vp_nar .boolean (1 : Int32))) H locs ls hI (lv_sub hl [1, 2, 3, 0] rfl) hm
def fX12_borneBy_25 (N : Nat) (x1 : Int32) (x2 : Int32) (m : Mem) : Option (Int32 × Mem) := (fX12_knownMany  m).bind (fun q1 => fX12_borneBy_32 N (fX12_borneBy_73 N) N x1 x2 (q1 - (1 : Int32)) m)
set_option maxHeartbeats 4000000 in
set_option maxRecDepth 100000 in
theorem tX12_borneBy_25 (N : Nat) {l : Launch} {D : va_G} {ca : Nat → ClassId} {ad : Nat → Nat} {p : Program} {e : Env} {s : State} {mm : MethodId} {args : Array Value} {below : List Frame} {meth : Method} {c : Code}  (hn : HNr ca) (X : CX p s mm args meth c cX12_borneBy 5 RX12 D ca ad (WA ca ad s.heap.size)) (hr : meth.sig.returnType = (some .int)) (fin : (Int32 × Mem))  : ∀ (x1 : Int32) (x2 : Int32) (m : Mem) (H : Heap) (locs : List Loc) (ls : Array Slot), IW D ca ad (WA ca ad s.heap.size) s m H locs → lv_has ls 5 [(0, .ref (ad 99)), (1, .int x1), (2, .int x2)] → fX12_borneBy_25 N x1 x2 m = some fin → W p l e rmX12_borneBy s mm args below meth c H locs 0 0 (MQ below (QI D ca ad s.heap.size fin.1 fin.2) args s 0 0 (WA ca ad s.heap.size)) (F0 mm 25 ls []) := by
  have hx := X.1
  have hb := X.2.1
  intro x1 x2 m H locs ls hI hl hm
  have hm : ((fX12_knownMany  m).bind (fun q1 => fX12_borneBy_32 N (fX12_borneBy_73 N) N x1 x2 (q1 - (1 : Int32)) m)) = some fin := hm
  refine lv_aload_n hx hb dX12_borneBy_25 rfl (lv_at hl 0 rfl) ?_
  obtain ⟨q1, h2, hm⟩ := g_b hm
  refine backI X hI (runV X hI (ctX12_knownMany   hn _ _ h2 _) mdX12_482 (la_99 hn) rfl ⟨rfl, rfl⟩ ⟨Nat.le_of_ble_eq_true rfl, Nat.le_of_ble_eq_true rfl⟩ rfl hl.1 rfl (Nat.le_of_ble_eq_true rfl) dX12_borneBy_26) (fun H locs hI => ?_)
  refine lv_iconst (v := (1 : Int32)) hx hb dX12_borneBy_29 (by decide) ?_
  refine lv_isub hx hb dX12_borneBy_30 ?_
  refine lv_istore_n (lv' := [(3, .int (q1 - (1 : Int32))), (0, .ref (ad 99)), (1, .int x1), (2, .int x2)]) hx hb dX12_borneBy_31 rfl hl (by decide) rfl (fun ls hl => ?_)
  exact tX12_borneBy_32 N hn X hr fin (tX12_borneBy_73 N hn X hr fin ) N x1 x2 (q1 - (1 : Int32)) m H locs ls hI (lv_sub hl [1, 2, 3, 0] rfl) hm
def fX12_borneBy_4 (N : Nat) (k25 : Int32 → Int32 → Mem → Option (Int32 × Mem)) : Nat → Int32 → Int32 → Int32 → Mem → Option (Int32 × Mem)
  | 0, _, _, _, _ => none
  | n + 1, x1, x2, x3, m => (fX12_knownMany  m).bind (fun q22 => if q22 ≤ x3 then (k25 x1 x2 m) else (if x3 < 0 ∨ 24 ≤ x3.toNatClampNeg then none else (fX12_borneBy_4 N k25 n x1 x2 (x3 + (1 : Int32)) (mI m 141 x3.toNatClampNeg (vp_nar .boolean (0 : Int32))))))
set_option maxHeartbeats 4000000 in
set_option maxRecDepth 100000 in
theorem tX12_borneBy_4 (N : Nat) {l : Launch} {D : va_G} {ca : Nat → ClassId} {ad : Nat → Nat} {p : Program} {e : Env} {s : State} {mm : MethodId} {args : Array Value} {below : List Frame} {meth : Method} {c : Code} {k25 : Int32 → Int32 → Mem → Option (Int32 × Mem)} (hn : HNr ca) (X : CX p s mm args meth c cX12_borneBy 5 RX12 D ca ad (WA ca ad s.heap.size)) (hr : meth.sig.returnType = (some .int)) (fin : (Int32 × Mem)) (hk25 : ∀ (x1 : Int32) (x2 : Int32) (m : Mem) (H : Heap) (locs : List Loc) (ls : Array Slot), IW D ca ad (WA ca ad s.heap.size) s m H locs → lv_has ls 5 [(0, .ref (ad 99)), (1, .int x1), (2, .int x2)] → k25 x1 x2 m = some fin → W p l e rmX12_borneBy s mm args below meth c H locs 0 0 (MQ below (QI D ca ad s.heap.size fin.1 fin.2) args s 0 0 (WA ca ad s.heap.size)) (F0 mm 25 ls [])) : ∀ (n : Nat) (x1 : Int32) (x2 : Int32) (x3 : Int32) (m : Mem) (H : Heap) (locs : List Loc) (ls : Array Slot), IW D ca ad (WA ca ad s.heap.size) s m H locs → lv_has ls 5 [(0, .ref (ad 99)), (1, .int x1), (2, .int x2), (3, .int x3)] → fX12_borneBy_4 N k25 n x1 x2 x3 m = some fin → W p l e rmX12_borneBy s mm args below meth c H locs 0 0 (MQ below (QI D ca ad s.heap.size fin.1 fin.2) args s 0 0 (WA ca ad s.heap.size)) (F0 mm 4 ls []) := by
  have hx := X.1
  have hb := X.2.1
  intro n
  induction n with
  | zero => intro x1 x2 x3 m H locs ls hI hl hm
            exact absurd hm (by intro q; cases q)
  | succ n ih =>
    intro x1 x2 x3 m H locs ls hI hl hm
    have hm : ((fX12_knownMany  m).bind (fun q22 => if q22 ≤ x3 then (k25 x1 x2 m) else (if x3 < 0 ∨ 24 ≤ x3.toNatClampNeg then none else (fX12_borneBy_4 N k25 n x1 x2 (x3 + (1 : Int32)) (mI m 141 x3.toNatClampNeg (vp_nar .boolean (0 : Int32))))))) = some fin := hm
    refine lv_iload_n hx hb dX12_borneBy_4 rfl (lv_at hl 3 rfl) ?_
    refine lv_aload_n hx hb dX12_borneBy_5 rfl (lv_at hl 0 rfl) ?_
    obtain ⟨q22, h23, hm⟩ := g_b hm
    refine backI X hI (runV X hI (ctX12_knownMany   hn _ _ h23 _) mdX12_482 (la_99 hn) rfl ⟨rfl, rfl⟩ ⟨Nat.le_of_ble_eq_true rfl, Nat.le_of_ble_eq_true rfl⟩ rfl hl.1 rfl (Nat.le_of_ble_eq_true rfl) dX12_borneBy_6) (fun H locs hI => ?_)
    refine lv_icmp_ge (tgt := 25) hx hb dX12_borneBy_9 (by decide) (fun c24 => ?_) (fun c24 => ?_)
    · have hm := g_t c24 hm
      exact hk25 x1 x2 m H locs ls hI (lv_sub hl [0, 1, 2] rfl) hm
    · have hm := g_f c24 hm
      refine lv_aload_n hx hb dX12_borneBy_12 rfl (lv_at hl 0 rfl) ?_
      refine gR X hI fdX12_145 (la_99 hn) rf12_65 dX12_borneBy_13 ?_
      refine lv_iload_n hx hb dX12_borneBy_16 rfl (lv_at hl 3 rfl) ?_
      refine lv_iconst (v := (0 : Int32)) hx hb dX12_borneBy_17 (by decide) ?_
      obtain ⟨g25, hm⟩ := g_no hm
      refine sZ X hI (la_141 hn) g25 dX12_borneBy_18 (fun H locs hI => ?_)
      refine lv_iinc (v := (x3 + (1 : Int32))) (lv' := [(3, .int (x3 + (1 : Int32))), (0, .ref (ad 99)), (1, .int x1), (2, .int x2)]) hx hb dX12_borneBy_19 hl (k := 3) rfl rfl (by decide) rfl (fun ls hl => ?_)
      refine lv_goto (tgt := 4) hx hb dX12_borneBy_22 (by decide) ?_
      exact ih x1 x2 (x3 + (1 : Int32)) (mI m 141 x3.toNatClampNeg (vp_nar .boolean (0 : Int32))) H locs ls hI (lv_sub hl [1, 2, 3, 0] rfl) hm
def fX12_borneBy (N : Nat) (x1 : Int32) (m : Mem) : Option (Int32 × Mem) := fX12_borneBy_4 N (fX12_borneBy_25 N) N x1 (0 : Int32) (0 : Int32) m
set_option maxHeartbeats 4000000 in
set_option maxRecDepth 100000 in
theorem ctX12_borneBy {l : Launch} {D : va_G} {ca : Nat → ClassId} {ad : Nat → Nat} (N : Nat) (x1 : Int32)  (hn : HNr ca) (m : Mem) (fin : (Int32 × Mem)) (hm : fX12_borneBy N x1 m = some fin) : CI l D ca ad yX12_borneBy cwX12_borneBy rmX12_borneBy [.ref (ad 99), .int x1] m fin.1 fin.2 := by
  refine start (by decide) (Nat.le_of_ble_eq_true rfl) ?_
  intro p e s mm args below meth c H locs ls X hI hr hl
  have X : CX p s mm args meth c cX12_borneBy 5 RX12 D ca ad (WA ca ad s.heap.size) := X
  have hx := X.1
  have hb := X.2.1
  have hl : lv_has ls 5 [(0, .ref (ad 99)), (1, .int x1)] := hl
  have hm : (fX12_borneBy_4 N (fX12_borneBy_25 N) N x1 (0 : Int32) (0 : Int32) m) = some fin := hm
  refine lv_iconst (v := (0 : Int32)) hx hb dX12_borneBy_0 (by decide) ?_
  refine lv_istore_n (lv' := [(2, .int (0 : Int32)), (0, .ref (ad 99)), (1, .int x1)]) hx hb dX12_borneBy_1 rfl hl (by decide) rfl (fun ls hl => ?_)
  refine lv_iconst (v := (0 : Int32)) hx hb dX12_borneBy_2 (by decide) ?_
  refine lv_istore_n (lv' := [(3, .int (0 : Int32)), (2, .int (0 : Int32)), (0, .ref (ad 99)), (1, .int x1)]) hx hb dX12_borneBy_3 rfl hl (by decide) rfl (fun ls hl => ?_)
  exact tX12_borneBy_4 N hn X hr fin (tX12_borneBy_25 N hn X hr fin ) N x1 (0 : Int32) (0 : Int32) m H locs ls hI (lv_sub hl [2, 3, 1, 0] rfl) hm
