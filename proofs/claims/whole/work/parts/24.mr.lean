abbrev rmX12_mixed : Room := { frames := 0, cells := 0, slots := 0, locals := 0 }
def fX12_mixed  (x0 : Int32) (x1 : Int32) (x2 : Int32) (x3 : Int32) (m : Mem) : Option Int32 := if (x0 + x2) = 0 then none else (some (((x0 * x1) + (x2 * x3)) / (x0 + x2)))
set_option maxHeartbeats 4000000 in
set_option maxRecDepth 100000 in
theorem ctX12_mixed {l : Launch} {D : va_G} {ca : Nat → ClassId} {ad : Nat → Nat}  (x0 : Int32) (x1 : Int32) (x2 : Int32) (x3 : Int32)  (hn : HNr ca) (m : Mem) (fin : Int32) (hm : fX12_mixed x0 x1 x2 x3 m = some fin) : CI l D ca ad yX12_mixed cwX12_mixed rmX12_mixed [.int x0, .int x1, .int x2, .int x3] m fin m := by
  refine start (by decide) (Nat.le_of_ble_eq_true rfl) ?_
  intro p e s mm args below meth c H locs ls X hI hr hl
  have X : CX p s mm args meth c cX12_mixed 4 RX12 D ca ad (WA ca ad s.heap.size) := X
  have hx := X.1
  have hb := X.2.1
  have hl : lv_has ls 4 [(0, .int x0), (1, .int x1), (2, .int x2), (3, .int x3)] := hl
  have hm : (if (x0 + x2) = 0 then none else (some (((x0 * x1) + (x2 * x3)) / (x0 + x2)))) = some fin := hm
  have hpm : m = m := rfl
  refine lv_iload_n hx hb dX12_mixed_0 rfl (lv_at hl 0 rfl) ?_
  refine lv_iload_n hx hb dX12_mixed_1 rfl (lv_at hl 1 rfl) ?_
  refine lv_imul hx hb dX12_mixed_2 ?_
  refine lv_iload_n hx hb dX12_mixed_3 rfl (lv_at hl 2 rfl) ?_
  refine lv_iload_n hx hb dX12_mixed_4 rfl (lv_at hl 3 rfl) ?_
  refine lv_imul hx hb dX12_mixed_5 ?_
  refine lv_iadd hx hb dX12_mixed_6 ?_
  refine lv_iload_n hx hb dX12_mixed_7 rfl (lv_at hl 0 rfl) ?_
  refine lv_iload_n hx hb dX12_mixed_8 rfl (lv_at hl 2 rfl) ?_
  refine lv_iadd hx hb dX12_mixed_9 ?_
  obtain ⟨g1, hm⟩ := g_no hm
  refine lv_idiv hx hb dX12_mixed_10 g1 ?_
  exact rI X hI hr (g_1 hm) hpm dX12_mixed_11
abbrev rmX12_mixes : Room := { frames := 1, cells := 0, slots := 0, locals := 23 }
def fX12_mixes  (x1 : Int32) (x2 : Int32) (x3 : Int32) (x4 : Int32) (m : Mem) : Option (Int32 × Mem) := if (((6 : Int32) * x1) + x2) < 0 ∨ 138 ≤ (((6 : Int32) * x1) + x2).toNatClampNeg then none else (if ((m.1 126 (((6 : Int32) * x1) + x2).toNatClampNeg) + x3) ≤ (999 : Int32) then (if (((6 : Int32) * x1) + x2) < 0 ∨ 138 ≤ (((6 : Int32) * x1) + x2).toNatClampNeg then none else (if (((6 : Int32) * x1) + x2) < 0 ∨ 138 ≤ (((6 : Int32) * x1) + x2).toNatClampNeg then none else ((fX12_mixed (m.1 126 (((6 : Int32) * x1) + x2).toNatClampNeg) (m.1 127 (((6 : Int32) * x1) + x2).toNatClampNeg) x3 x4 m).bind (fun q5 => if (((6 : Int32) * x1) + x2) < 0 ∨ 138 ≤ (((6 : Int32) * x1) + x2).toNatClampNeg then none else (if (((6 : Int32) * x1) + x2) < 0 ∨ 138 ≤ (((6 : Int32) * x1) + x2).toNatClampNeg then none else (if (((6 : Int32) * x1) + x2) < 0 ∨ 138 ≤ (((6 : Int32) * x1) + x2).toNatClampNeg then none else (some ((1 : Int32), (mI (mI m 127 (((6 : Int32) * x1) + x2).toNatClampNeg q5) 126 (((6 : Int32) * x1) + x2).toNatClampNeg (((mI m 127 (((6 : Int32) * x1) + x2).toNatClampNeg q5).1 126 (((6 : Int32) * x1) + x2).toNatClampNeg) + x3)))))))))) else (some ((0 : Int32), m)))
set_option maxHeartbeats 4000000 in
set_option maxRecDepth 100000 in
theorem ctX12_mixes {l : Launch} {D : va_G} {ca : Nat → ClassId} {ad : Nat → Nat}  (x1 : Int32) (x2 : Int32) (x3 : Int32) (x4 : Int32)  (hn : HNr ca) (m : Mem) (fin : (Int32 × Mem)) (hm : fX12_mixes x1 x2 x3 x4 m = some fin) : CI l D ca ad yX12_mixes cwX12_mixes rmX12_mixes [.ref (ad 99), .int x1, .int x2, .int x3, .int x4] m fin.1 fin.2 := by
  refine start (by decide) (Nat.le_of_ble_eq_true rfl) ?_
  intro p e s mm args below meth c H locs ls X hI hr hl
  have X : CX p s mm args meth c cX12_mixes 6 RX12 D ca ad (WA ca ad s.heap.size) := X
  have hx := X.1
  have hb := X.2.1
  have hl : lv_has ls 6 [(0, .ref (ad 99)), (1, .int x1), (2, .int x2), (3, .int x3), (4, .int x4)] := hl
  have hm : (if (((6 : Int32) * x1) + x2) < 0 ∨ 138 ≤ (((6 : Int32) * x1) + x2).toNatClampNeg then none else (if ((m.1 126 (((6 : Int32) * x1) + x2).toNatClampNeg) + x3) ≤ (999 : Int32) then (if (((6 : Int32) * x1) + x2) < 0 ∨ 138 ≤ (((6 : Int32) * x1) + x2).toNatClampNeg then none else (if (((6 : Int32) * x1) + x2) < 0 ∨ 138 ≤ (((6 : Int32) * x1) + x2).toNatClampNeg then none else ((fX12_mixed (m.1 126 (((6 : Int32) * x1) + x2).toNatClampNeg) (m.1 127 (((6 : Int32) * x1) + x2).toNatClampNeg) x3 x4 m).bind (fun q5 => if (((6 : Int32) * x1) + x2) < 0 ∨ 138 ≤ (((6 : Int32) * x1) + x2).toNatClampNeg then none else (if (((6 : Int32) * x1) + x2) < 0 ∨ 138 ≤ (((6 : Int32) * x1) + x2).toNatClampNeg then none else (if (((6 : Int32) * x1) + x2) < 0 ∨ 138 ≤ (((6 : Int32) * x1) + x2).toNatClampNeg then none else (some ((1 : Int32), (mI (mI m 127 (((6 : Int32) * x1) + x2).toNatClampNeg q5) 126 (((6 : Int32) * x1) + x2).toNatClampNeg (((mI m 127 (((6 : Int32) * x1) + x2).toNatClampNeg q5).1 126 (((6 : Int32) * x1) + x2).toNatClampNeg) + x3)))))))))) else (some ((0 : Int32), m)))) = some fin := hm
  refine lv_bipush (v := (6 : Int32)) hx hb dX12_mixes_0 (by decide) ?_
  refine lv_iload_n hx hb dX12_mixes_2 rfl (lv_at hl 1 rfl) ?_
  refine lv_imul hx hb dX12_mixes_3 ?_
  refine lv_iload_n hx hb dX12_mixes_4 rfl (lv_at hl 2 rfl) ?_
  refine lv_iadd hx hb dX12_mixes_5 ?_
  refine lv_istore (lv' := [(5, .int (((6 : Int32) * x1) + x2)), (0, .ref (ad 99)), (1, .int x1), (2, .int x2), (3, .int x3), (4, .int x4)]) hx hb dX12_mixes_6 hl (by decide) rfl (fun ls hl => ?_)
  refine lv_aload_n hx hb dX12_mixes_8 rfl (lv_at hl 1 rfl) ?_
  refine gR X hI fdX12_93 (la_99 hn) rf12_42 dX12_mixes_9 ?_
  refine lv_iload hx hb dX12_mixes_12 (lv_at hl 0 rfl) ?_
  obtain ⟨g1, hm⟩ := g_no hm
  refine aI X hI (la_126 hn) g1 dX12_mixes_14 ?_
  refine lv_iload_n hx hb dX12_mixes_15 rfl (lv_at hl 4 rfl) ?_
  refine lv_iadd hx hb dX12_mixes_16 ?_
  refine lv_sipush (v := (999 : Int32)) hx hb dX12_mixes_17 (by decide) ?_
  refine lv_icmp_le (tgt := 25) hx hb dX12_mixes_20 (by decide) (fun c2 => ?_) (fun c2 => ?_)
  · have hm := g_t c2 hm
    refine lv_aload_n hx hb dX12_mixes_25 rfl (lv_at hl 1 rfl) ?_
    refine gR X hI fdX12_96 (la_99 hn) rf12_43 dX12_mixes_26 ?_
    refine lv_iload hx hb dX12_mixes_29 (lv_at hl 0 rfl) ?_
    refine lv_aload_n hx hb dX12_mixes_31 rfl (lv_at hl 1 rfl) ?_
    refine gR X hI fdX12_93 (la_99 hn) rf12_42 dX12_mixes_32 ?_
    refine lv_iload hx hb dX12_mixes_35 (lv_at hl 0 rfl) ?_
    obtain ⟨g3, hm⟩ := g_no hm
    refine aI X hI (la_126 hn) g3 dX12_mixes_37 ?_
    refine lv_aload_n hx hb dX12_mixes_38 rfl (lv_at hl 1 rfl) ?_
    refine gR X hI fdX12_96 (la_99 hn) rf12_43 dX12_mixes_39 ?_
    refine lv_iload hx hb dX12_mixes_42 (lv_at hl 0 rfl) ?_
    obtain ⟨g4, hm⟩ := g_no hm
    refine aI X hI (la_127 hn) g4 dX12_mixes_44 ?_
    refine lv_iload_n hx hb dX12_mixes_45 rfl (lv_at hl 4 rfl) ?_
    refine lv_iload hx hb dX12_mixes_46 (lv_at hl 5 rfl) ?_
    obtain ⟨q5, h6, hm⟩ := g_b hm
    refine backI X hI (runS X hI (ctX12_mixed (m.1 126 (((6 : Int32) * x1) + x2).toNatClampNeg) (m.1 127 (((6 : Int32) * x1) + x2).toNatClampNeg) x3 x4  hn _ _ h6 _) msX12_360 ⟨rfl, rfl⟩ ⟨Nat.le_of_ble_eq_true rfl, Nat.le_of_ble_eq_true rfl⟩ rfl hl.1 rfl (Nat.le_of_ble_eq_true rfl) dX12_mixes_48) (fun H locs hI => ?_)
    obtain ⟨g7, hm⟩ := g_no hm
    refine sI X hI (la_127 hn) g7 dX12_mixes_51 (fun H locs hI => ?_)
    refine lv_aload_n hx hb dX12_mixes_52 rfl (lv_at hl 1 rfl) ?_
    refine gR X hI fdX12_93 (la_99 hn) rf12_42 dX12_mixes_53 ?_
    refine lv_iload hx hb dX12_mixes_56 (lv_at hl 0 rfl) ?_
    refine lv_dup2_11 hx hb dX12_mixes_58 rfl rfl ?_
    obtain ⟨g8, hm⟩ := g_no hm
    refine aI X hI (la_126 hn) g8 dX12_mixes_59 ?_
    refine lv_iload_n hx hb dX12_mixes_60 rfl (lv_at hl 4 rfl) ?_
    refine lv_iadd hx hb dX12_mixes_61 ?_
    obtain ⟨g9, hm⟩ := g_no hm
    refine sI X hI (la_126 hn) g9 dX12_mixes_62 (fun H locs hI => ?_)
    refine lv_iconst (v := (1 : Int32)) hx hb dX12_mixes_63 (by decide) ?_
    exact rZ X hI hr (by decide) (g_p hm).1 (g_p hm).2 dX12_mixes_64
  · have hm := g_f c2 hm
    refine lv_iconst (v := (0 : Int32)) hx hb dX12_mixes_23 (by decide) ?_
    exact rZ X hI hr (by decide) (g_p hm).1 (g_p hm).2 dX12_mixes_24
abbrev rmX12_flows : Room := { frames := 2, cells := 0, slots := 0, locals := 48 }
def fX12_flows  (x1 : Int32) (x2 : Int32) (m : Mem) : Option Mem := if x2 < 0 ∨ 16 ≤ x2.toNatClampNeg then none else (if x2 < 0 ∨ 16 ≤ x2.toNatClampNeg then none else (if (((6 : Int32) * x1) + (m.1 114 x2.toNatClampNeg)) < 0 ∨ 138 ≤ (((6 : Int32) * x1) + (m.1 114 x2.toNatClampNeg)).toNatClampNeg then none else (if (imin (m.1 116 x2.toNatClampNeg) ((m.1 126 (((6 : Int32) * x1) + (m.1 114 x2.toNatClampNeg)).toNatClampNeg) - (1 : Int32))) ≤ 0 then (some m) else (if x2 < 0 ∨ 16 ≤ x2.toNatClampNeg then none else (if (((6 : Int32) * x1) + (m.1 114 x2.toNatClampNeg)) < 0 ∨ 138 ≤ (((6 : Int32) * x1) + (m.1 114 x2.toNatClampNeg)).toNatClampNeg then none else ((fX12_mixes x1 (m.1 115 x2.toNatClampNeg) (imin (m.1 116 x2.toNatClampNeg) ((m.1 126 (((6 : Int32) * x1) + (m.1 114 x2.toNatClampNeg)).toNatClampNeg) - (1 : Int32))) (m.1 127 (((6 : Int32) * x1) + (m.1 114 x2.toNatClampNeg)).toNatClampNeg) m).bind (fun q7 => if q7.1 = 0 then (some q7.2) else (if (((6 : Int32) * x1) + (m.1 114 x2.toNatClampNeg)) < 0 ∨ 138 ≤ (((6 : Int32) * x1) + (m.1 114 x2.toNatClampNeg)).toNatClampNeg then none else (if (((6 : Int32) * x1) + (m.1 114 x2.toNatClampNeg)) < 0 ∨ 138 ≤ (((6 : Int32) * x1) + (m.1 114 x2.toNatClampNeg)).toNatClampNeg then none else (some (mI q7.2 126 (((6 : Int32) * x1) + (m.1 114 x2.toNatClampNeg)).toNatClampNeg ((q7.2.1 126 (((6 : Int32) * x1) + (m.1 114 x2.toNatClampNeg)).toNatClampNeg) - (imin (m.1 116 x2.toNatClampNeg) ((m.1 126 (((6 : Int32) * x1) + (m.1 114 x2.toNatClampNeg)).toNatClampNeg) - (1 : Int32)))))))))))))))
set_option maxHeartbeats 4000000 in
set_option maxRecDepth 100000 in
theorem ctX12_flows {l : Launch} {D : va_G} {ca : Nat → ClassId} {ad : Nat → Nat}  (x1 : Int32) (x2 : Int32)  (hn : HNr ca) (m : Mem) (fin : Mem) (hm : fX12_flows x1 x2 m = some fin) : CV l D ca ad yX12_flows cwX12_flows rmX12_flows [.ref (ad 99), .int x1, .int x2] m fin := by
  refine start (by decide) (Nat.le_of_ble_eq_true rfl) ?_
  intro p e s mm args below meth c H locs ls X hI hr hl
  have X : CX p s mm args meth c cX12_flows 5 RX12 D ca ad (WA ca ad s.heap.size) := X
  have hx := X.1
  have hb := X.2.1
  have hl : lv_has ls 5 [(0, .ref (ad 99)), (1, .int x1), (2, .int x2)] := hl
  have hm : (if x2 < 0 ∨ 16 ≤ x2.toNatClampNeg then none else (if x2 < 0 ∨ 16 ≤ x2.toNatClampNeg then none else (if (((6 : Int32) * x1) + (m.1 114 x2.toNatClampNeg)) < 0 ∨ 138 ≤ (((6 : Int32) * x1) + (m.1 114 x2.toNatClampNeg)).toNatClampNeg then none else (if (imin (m.1 116 x2.toNatClampNeg) ((m.1 126 (((6 : Int32) * x1) + (m.1 114 x2.toNatClampNeg)).toNatClampNeg) - (1 : Int32))) ≤ 0 then (some m) else (if x2 < 0 ∨ 16 ≤ x2.toNatClampNeg then none else (if (((6 : Int32) * x1) + (m.1 114 x2.toNatClampNeg)) < 0 ∨ 138 ≤ (((6 : Int32) * x1) + (m.1 114 x2.toNatClampNeg)).toNatClampNeg then none else ((fX12_mixes x1 (m.1 115 x2.toNatClampNeg) (imin (m.1 116 x2.toNatClampNeg) ((m.1 126 (((6 : Int32) * x1) + (m.1 114 x2.toNatClampNeg)).toNatClampNeg) - (1 : Int32))) (m.1 127 (((6 : Int32) * x1) + (m.1 114 x2.toNatClampNeg)).toNatClampNeg) m).bind (fun q7 => if q7.1 = 0 then (some q7.2) else (if (((6 : Int32) * x1) + (m.1 114 x2.toNatClampNeg)) < 0 ∨ 138 ≤ (((6 : Int32) * x1) + (m.1 114 x2.toNatClampNeg)).toNatClampNeg then none else (if (((6 : Int32) * x1) + (m.1 114 x2.toNatClampNeg)) < 0 ∨ 138 ≤ (((6 : Int32) * x1) + (m.1 114 x2.toNatClampNeg)).toNatClampNeg then none else (some (mI q7.2 126 (((6 : Int32) * x1) + (m.1 114 x2.toNatClampNeg)).toNatClampNeg ((q7.2.1 126 (((6 : Int32) * x1) + (m.1 114 x2.toNatClampNeg)).toNatClampNeg) - (imin (m.1 116 x2.toNatClampNeg) ((m.1 126 (((6 : Int32) * x1) + (m.1 114 x2.toNatClampNeg)).toNatClampNeg) - (1 : Int32)))))))))))))))) = some fin := hm
  refine lv_bipush (v := (6 : Int32)) hx hb dX12_flows_0 (by decide) ?_
  refine lv_iload_n hx hb dX12_flows_2 rfl (lv_at hl 1 rfl) ?_
  refine lv_imul hx hb dX12_flows_3 ?_
  refine lv_aload_n hx hb dX12_flows_4 rfl (lv_at hl 0 rfl) ?_
  refine gR X hI fdX12_52 (la_99 hn) rf12_16 dX12_flows_5 ?_
  refine lv_iload_n hx hb dX12_flows_8 rfl (lv_at hl 2 rfl) ?_
  obtain ⟨g1, hm⟩ := g_no hm
  refine aI X hI (la_114 hn) g1 dX12_flows_9 ?_
  refine lv_iadd hx hb dX12_flows_10 ?_
  refine lv_istore_n (lv' := [(3, .int (((6 : Int32) * x1) + (m.1 114 x2.toNatClampNeg))), (0, .ref (ad 99)), (1, .int x1), (2, .int x2)]) hx hb dX12_flows_11 rfl hl (by decide) rfl (fun ls hl => ?_)
  refine lv_aload_n hx hb dX12_flows_12 rfl (lv_at hl 1 rfl) ?_
  refine gR X hI fdX12_58 (la_99 hn) rf12_18 dX12_flows_13 ?_
  refine lv_iload_n hx hb dX12_flows_16 rfl (lv_at hl 3 rfl) ?_
  obtain ⟨g2, hm⟩ := g_no hm
  refine aI X hI (la_116 hn) g2 dX12_flows_17 ?_
  refine lv_aload_n hx hb dX12_flows_18 rfl (lv_at hl 1 rfl) ?_
  refine gR X hI fdX12_93 (la_99 hn) rf12_42 dX12_flows_19 ?_
  refine lv_iload_n hx hb dX12_flows_22 rfl (lv_at hl 0 rfl) ?_
  obtain ⟨g3, hm⟩ := g_no hm
  refine aI X hI (la_126 hn) g3 dX12_flows_23 ?_
  refine lv_iconst (v := (1 : Int32)) hx hb dX12_flows_24 (by decide) ?_
  refine lv_isub hx hb dX12_flows_25 ?_
  refine kMin X mpX12_364 hl.1 (Nat.le_of_ble_eq_true rfl) (Nat.le_of_ble_eq_true rfl) dX12_flows_26 ?_
  refine lv_istore (lv' := [(4, .int (imin (m.1 116 x2.toNatClampNeg) ((m.1 126 (((6 : Int32) * x1) + (m.1 114 x2.toNatClampNeg)).toNatClampNeg) - (1 : Int32)))), (3, .int (((6 : Int32) * x1) + (m.1 114 x2.toNatClampNeg))), (0, .ref (ad 99)), (1, .int x1), (2, .int x2)]) hx hb dX12_flows_29 hl (by decide) rfl (fun ls hl => ?_)
  refine lv_iload hx hb dX12_flows_31 (lv_at hl 0 rfl) ?_
  refine lv_if_le (tgt := 69) hx hb dX12_flows_33 (by decide) (fun c4 => ?_) (fun c4 => ?_)
  · have hm := g_t c4 hm
    exact rV X hI hr (g_1 hm) dX12_flows_69
  · have hm := g_f c4 hm
    refine lv_aload_n hx hb dX12_flows_36 rfl (lv_at hl 2 rfl) ?_
    refine lv_iload_n hx hb dX12_flows_37 rfl (lv_at hl 3 rfl) ?_
    refine lv_aload_n hx hb dX12_flows_38 rfl (lv_at hl 2 rfl) ?_
    refine gR X hI fdX12_55 (la_99 hn) rf12_17 dX12_flows_39 ?_
    refine lv_iload_n hx hb dX12_flows_42 rfl (lv_at hl 4 rfl) ?_
    obtain ⟨g5, hm⟩ := g_no hm
    refine aI X hI (la_115 hn) g5 dX12_flows_43 ?_
    refine lv_iload hx hb dX12_flows_44 (lv_at hl 0 rfl) ?_
    refine lv_aload_n hx hb dX12_flows_46 rfl (lv_at hl 2 rfl) ?_
    refine gR X hI fdX12_96 (la_99 hn) rf12_43 dX12_flows_47 ?_
    refine lv_iload_n hx hb dX12_flows_50 rfl (lv_at hl 1 rfl) ?_
    obtain ⟨g6, hm⟩ := g_no hm
    refine aI X hI (la_127 hn) g6 dX12_flows_51 ?_
    obtain ⟨q7, h8, hm⟩ := g_b hm
    refine backI X hI (runV X hI (ctX12_mixes x1 (m.1 115 x2.toNatClampNeg) (imin (m.1 116 x2.toNatClampNeg) ((m.1 126 (((6 : Int32) * x1) + (m.1 114 x2.toNatClampNeg)).toNatClampNeg) - (1 : Int32))) (m.1 127 (((6 : Int32) * x1) + (m.1 114 x2.toNatClampNeg)).toNatClampNeg)  hn _ _ h8 _) mdX12_366 (la_99 hn) rfl ⟨rfl, rfl⟩ ⟨Nat.le_of_ble_eq_true rfl, Nat.le_of_ble_eq_true rfl⟩ rfl hl.1 rfl (Nat.le_of_ble_eq_true rfl) dX12_flows_52) (fun H locs hI => ?_)
    refine lv_if_eq (tgt := 69) hx hb dX12_flows_55 (by decide) (fun c9 => ?_) (fun c9 => ?_)
    · have hm := g_t c9 hm
      exact rV X hI hr (g_1 hm) dX12_flows_69
    · have hm := g_f c9 hm
      refine lv_aload_n hx hb dX12_flows_58 rfl (lv_at hl 2 rfl) ?_
      refine gR X hI fdX12_93 (la_99 hn) rf12_42 dX12_flows_59 ?_
      refine lv_iload_n hx hb dX12_flows_62 rfl (lv_at hl 1 rfl) ?_
      refine lv_dup2_11 hx hb dX12_flows_63 rfl rfl ?_
      obtain ⟨g10, hm⟩ := g_no hm
      refine aI X hI (la_126 hn) g10 dX12_flows_64 ?_
      refine lv_iload hx hb dX12_flows_65 (lv_at hl 0 rfl) ?_
      refine lv_isub hx hb dX12_flows_67 ?_
      obtain ⟨g11, hm⟩ := g_no hm
      refine sI X hI (la_126 hn) g11 dX12_flows_68 (fun H locs hI => ?_)
      exact rV X hI hr (g_1 hm) dX12_flows_69
abbrev rmX12_loses : Room := { frames := 4, cells := 0, slots := 0, locals := 97 }
def fX12_loses (N : Nat) (x1 : Int32) (x2 : Int32) (m : Mem) : Option Mem := (fX12_calls x1 (-1 : Int32) x2 (0 : Int32) m).bind (fun q1 => if (((6 : Int32) * x1) + x2) < 0 ∨ 138 ≤ (((6 : Int32) * x1) + x2).toNatClampNeg then none else (if (((6 : Int32) * x1) + x2) < 0 ∨ 138 ≤ (((6 : Int32) * x1) + x2).toNatClampNeg then none else ((fX12_within N (0 : Int32) (0 : Int32) (99 : Int32) (imax (0 : Int32) (((q1.1 127 (((6 : Int32) * x1) + x2).toNatClampNeg) - (200 : Int32)) / (50 : Int32))) q1).bind (fun q5 => if (((6 : Int32) * x1) + x2) < 0 ∨ 138 ≤ (((6 : Int32) * x1) + x2).toNatClampNeg then none else (some (mI q5.2 127 (((6 : Int32) * x1) + x2).toNatClampNeg (imax (0 : Int32) ((q1.1 127 (((6 : Int32) * x1) + x2).toNatClampNeg) - q5.1))))))))
set_option maxHeartbeats 4000000 in
set_option maxRecDepth 100000 in
theorem ctX12_loses {l : Launch} {D : va_G} {ca : Nat → ClassId} {ad : Nat → Nat} (N : Nat) (x1 : Int32) (x2 : Int32)  (hn : HNr ca) (m : Mem) (fin : Mem) (hm : fX12_loses N x1 x2 m = some fin) : CV l D ca ad yX12_loses cwX12_loses rmX12_loses [.ref (ad 99), .int x1, .int x2] m fin := by
  refine start (by decide) (Nat.le_of_ble_eq_true rfl) ?_
  intro p e s mm args below meth c H locs ls X hI hr hl
  have X : CX p s mm args meth c cX12_loses 4 RX12 D ca ad (WA ca ad s.heap.size) := X
  have hx := X.1
  have hb := X.2.1
  have hl : lv_has ls 4 [(0, .ref (ad 99)), (1, .int x1), (2, .int x2)] := hl
  have hm : ((fX12_calls x1 (-1 : Int32) x2 (0 : Int32) m).bind (fun q1 => if (((6 : Int32) * x1) + x2) < 0 ∨ 138 ≤ (((6 : Int32) * x1) + x2).toNatClampNeg then none else (if (((6 : Int32) * x1) + x2) < 0 ∨ 138 ≤ (((6 : Int32) * x1) + x2).toNatClampNeg then none else ((fX12_within N (0 : Int32) (0 : Int32) (99 : Int32) (imax (0 : Int32) (((q1.1 127 (((6 : Int32) * x1) + x2).toNatClampNeg) - (200 : Int32)) / (50 : Int32))) q1).bind (fun q5 => if (((6 : Int32) * x1) + x2) < 0 ∨ 138 ≤ (((6 : Int32) * x1) + x2).toNatClampNeg then none else (some (mI q5.2 127 (((6 : Int32) * x1) + x2).toNatClampNeg (imax (0 : Int32) ((q1.1 127 (((6 : Int32) * x1) + x2).toNatClampNeg) - q5.1))))))))) = some fin := hm
  refine lv_bipush (v := (6 : Int32)) hx hb dX12_loses_0 (by decide) ?_
  refine lv_iload_n hx hb dX12_loses_2 rfl (lv_at hl 1 rfl) ?_
  refine lv_imul hx hb dX12_loses_3 ?_
  refine lv_iload_n hx hb dX12_loses_4 rfl (lv_at hl 2 rfl) ?_
  refine lv_iadd hx hb dX12_loses_5 ?_
  refine lv_istore_n (lv' := [(3, .int (((6 : Int32) * x1) + x2)), (0, .ref (ad 99)), (1, .int x1), (2, .int x2)]) hx hb dX12_loses_6 rfl hl (by decide) rfl (fun ls hl => ?_)
  refine lv_aload_n hx hb dX12_loses_7 rfl (lv_at hl 1 rfl) ?_
  refine lv_iload_n hx hb dX12_loses_8 rfl (lv_at hl 2 rfl) ?_
  refine lv_iconst (v := (-1 : Int32)) hx hb dX12_loses_9 (by decide) ?_
  refine lv_iload_n hx hb dX12_loses_10 rfl (lv_at hl 3 rfl) ?_
  refine lv_iconst (v := (0 : Int32)) hx hb dX12_loses_11 (by decide) ?_
  obtain ⟨q1, h2, hm⟩ := g_b hm
  refine backV X hI (runV X hI (ctX12_calls x1 (-1 : Int32) x2 (0 : Int32)  hn _ _ h2 _) mdX12_356 (la_99 hn) rfl ⟨rfl, rfl⟩ ⟨Nat.le_of_ble_eq_true rfl, Nat.le_of_ble_eq_true rfl⟩ rfl hl.1 rfl (Nat.le_of_ble_eq_true rfl) dX12_loses_12) (fun H locs hI => ?_)
  refine lv_aload_n hx hb dX12_loses_15 rfl (lv_at hl 1 rfl) ?_
  refine gR X hI fdX12_96 (la_99 hn) rf12_43 dX12_loses_16 ?_
  refine lv_iload_n hx hb dX12_loses_19 rfl (lv_at hl 0 rfl) ?_
  refine lv_iconst (v := (0 : Int32)) hx hb dX12_loses_20 (by decide) ?_
  refine lv_aload_n hx hb dX12_loses_21 rfl (lv_at hl 1 rfl) ?_
  refine gR X hI fdX12_96 (la_99 hn) rf12_43 dX12_loses_22 ?_
  refine lv_iload_n hx hb dX12_loses_25 rfl (lv_at hl 0 rfl) ?_
  obtain ⟨g3, hm⟩ := g_no hm
  refine aI X hI (la_127 hn) g3 dX12_loses_26 ?_
  refine lv_aload_n hx hb dX12_loses_27 rfl (lv_at hl 1 rfl) ?_
  refine lv_iconst (v := (0 : Int32)) hx hb dX12_loses_28 (by decide) ?_
  refine lv_iconst (v := (0 : Int32)) hx hb dX12_loses_29 (by decide) ?_
  refine lv_bipush (v := (99 : Int32)) hx hb dX12_loses_30 (by decide) ?_
  refine lv_iconst (v := (0 : Int32)) hx hb dX12_loses_32 (by decide) ?_
  refine lv_aload_n hx hb dX12_loses_33 rfl (lv_at hl 1 rfl) ?_
  refine gR X hI fdX12_96 (la_99 hn) rf12_43 dX12_loses_34 ?_
  refine lv_iload_n hx hb dX12_loses_37 rfl (lv_at hl 0 rfl) ?_
  obtain ⟨g4, hm⟩ := g_no hm
  refine aI X hI (la_127 hn) g4 dX12_loses_38 ?_
  refine lv_sipush (v := (200 : Int32)) hx hb dX12_loses_39 (by decide) ?_
  refine lv_isub hx hb dX12_loses_42 ?_
  refine lv_bipush (v := (50 : Int32)) hx hb dX12_loses_43 (by decide) ?_
  refine lv_idiv hx hb dX12_loses_45 (by decide) ?_
  refine kMax X mpX12_370 hl.1 (Nat.le_of_ble_eq_true rfl) (Nat.le_of_ble_eq_true rfl) dX12_loses_46 ?_
  obtain ⟨q5, h6, hm⟩ := g_b hm
  refine backI X hI (runV X hI (ctX12_within N (0 : Int32) (0 : Int32) (99 : Int32) (imax (0 : Int32) (((q1.1 127 (((6 : Int32) * x1) + x2).toNatClampNeg) - (200 : Int32)) / (50 : Int32)))  hn _ _ h6 _) mdX12_372 (la_99 hn) rfl ⟨rfl, rfl⟩ ⟨Nat.le_of_ble_eq_true rfl, Nat.le_of_ble_eq_true rfl⟩ rfl hl.1 rfl (Nat.le_of_ble_eq_true rfl) dX12_loses_49) (fun H locs hI => ?_)
  refine lv_isub hx hb dX12_loses_52 ?_
  refine kMax X mpX12_370 hl.1 (Nat.le_of_ble_eq_true rfl) (Nat.le_of_ble_eq_true rfl) dX12_loses_53 ?_
  obtain ⟨g7, hm⟩ := g_no hm
  refine sI X hI (la_127 hn) g7 dX12_loses_56 (fun H locs hI => ?_)
  exact rV X hI hr (g_1 hm) dX12_loses_57
abbrev rmX12_sits : Room := { frames := 0, cells := 0, slots := 0, locals := 0 }
def fX12_sits  (x1 : Int32) (x2 : Int32) (x3 : Int32) (m : Mem) : Option Mem := if (((6 : Int32) * x1) + x2) < 0 ∨ 138 ≤ (((6 : Int32) * x1) + x2).toNatClampNeg then none else (if (((6 : Int32) * x1) + x2) < 0 ∨ 138 ≤ (((6 : Int32) * x1) + x2).toNatClampNeg then none else (some (mI (mI m 129 (((6 : Int32) * x1) + x2).toNatClampNeg x3) 130 (((6 : Int32) * x1) + x2).toNatClampNeg (0 : Int32))))
set_option maxHeartbeats 4000000 in
set_option maxRecDepth 100000 in
theorem ctX12_sits {l : Launch} {D : va_G} {ca : Nat → ClassId} {ad : Nat → Nat}  (x1 : Int32) (x2 : Int32) (x3 : Int32)  (hn : HNr ca) (m : Mem) (fin : Mem) (hm : fX12_sits x1 x2 x3 m = some fin) : CV l D ca ad yX12_sits cwX12_sits rmX12_sits [.ref (ad 99), .int x1, .int x2, .int x3] m fin := by
  refine start (by decide) (Nat.le_of_ble_eq_true rfl) ?_
  intro p e s mm args below meth c H locs ls X hI hr hl
  have X : CX p s mm args meth c cX12_sits 4 RX12 D ca ad (WA ca ad s.heap.size) := X
  have hx := X.1
  have hb := X.2.1
  have hl : lv_has ls 4 [(0, .ref (ad 99)), (1, .int x1), (2, .int x2), (3, .int x3)] := hl
  have hm : (if (((6 : Int32) * x1) + x2) < 0 ∨ 138 ≤ (((6 : Int32) * x1) + x2).toNatClampNeg then none else (if (((6 : Int32) * x1) + x2) < 0 ∨ 138 ≤ (((6 : Int32) * x1) + x2).toNatClampNeg then none else (some (mI (mI m 129 (((6 : Int32) * x1) + x2).toNatClampNeg x3) 130 (((6 : Int32) * x1) + x2).toNatClampNeg (0 : Int32))))) = some fin := hm
  refine lv_aload_n hx hb dX12_sits_0 rfl (lv_at hl 0 rfl) ?_
  refine gR X hI fdX12_102 (la_99 hn) rf12_45 dX12_sits_1 ?_
  refine lv_bipush (v := (6 : Int32)) hx hb dX12_sits_4 (by decide) ?_
  refine lv_iload_n hx hb dX12_sits_6 rfl (lv_at hl 1 rfl) ?_
  refine lv_imul hx hb dX12_sits_7 ?_
  refine lv_iload_n hx hb dX12_sits_8 rfl (lv_at hl 2 rfl) ?_
  refine lv_iadd hx hb dX12_sits_9 ?_
  refine lv_iload_n hx hb dX12_sits_10 rfl (lv_at hl 3 rfl) ?_
  obtain ⟨g1, hm⟩ := g_no hm
  refine sI X hI (la_129 hn) g1 dX12_sits_11 (fun H locs hI => ?_)
  refine lv_aload_n hx hb dX12_sits_12 rfl (lv_at hl 0 rfl) ?_
  refine gR X hI fdX12_105 (la_99 hn) rf12_46 dX12_sits_13 ?_
  refine lv_bipush (v := (6 : Int32)) hx hb dX12_sits_16 (by decide) ?_
  refine lv_iload_n hx hb dX12_sits_18 rfl (lv_at hl 1 rfl) ?_
  refine lv_imul hx hb dX12_sits_19 ?_
  refine lv_iload_n hx hb dX12_sits_20 rfl (lv_at hl 2 rfl) ?_
  refine lv_iadd hx hb dX12_sits_21 ?_
  refine lv_iconst (v := (0 : Int32)) hx hb dX12_sits_22 (by decide) ?_
  obtain ⟨g2, hm⟩ := g_no hm
  refine sI X hI (la_130 hn) g2 dX12_sits_23 (fun H locs hI => ?_)
  exact rV X hI hr (g_1 hm) dX12_sits_24
abbrev rmX12_leaves : Room := { frames := 0, cells := 0, slots := 0, locals := 0 }
def fX12_leaves  (x1 : Int32) (x2 : Int32) (m : Mem) : Option Mem := if (((6 : Int32) * x1) + x2) < 0 ∨ 138 ≤ (((6 : Int32) * x1) + x2).toNatClampNeg then none else (if (((6 : Int32) * x1) + x2) < 0 ∨ 138 ≤ (((6 : Int32) * x1) + x2).toNatClampNeg then none else (some (mI (mI m 129 (((6 : Int32) * x1) + x2).toNatClampNeg (-1 : Int32)) 130 (((6 : Int32) * x1) + x2).toNatClampNeg (0 : Int32))))
set_option maxHeartbeats 4000000 in
set_option maxRecDepth 100000 in
theorem ctX12_leaves {l : Launch} {D : va_G} {ca : Nat → ClassId} {ad : Nat → Nat}  (x1 : Int32) (x2 : Int32)  (hn : HNr ca) (m : Mem) (fin : Mem) (hm : fX12_leaves x1 x2 m = some fin) : CV l D ca ad yX12_leaves cwX12_leaves rmX12_leaves [.ref (ad 99), .int x1, .int x2] m fin := by
  refine start (by decide) (Nat.le_of_ble_eq_true rfl) ?_
  intro p e s mm args below meth c H locs ls X hI hr hl
  have X : CX p s mm args meth c cX12_leaves 3 RX12 D ca ad (WA ca ad s.heap.size) := X
  have hx := X.1
  have hb := X.2.1
  have hl : lv_has ls 3 [(0, .ref (ad 99)), (1, .int x1), (2, .int x2)] := hl
  have hm : (if (((6 : Int32) * x1) + x2) < 0 ∨ 138 ≤ (((6 : Int32) * x1) + x2).toNatClampNeg then none else (if (((6 : Int32) * x1) + x2) < 0 ∨ 138 ≤ (((6 : Int32) * x1) + x2).toNatClampNeg then none else (some (mI (mI m 129 (((6 : Int32) * x1) + x2).toNatClampNeg (-1 : Int32)) 130 (((6 : Int32) * x1) + x2).toNatClampNeg (0 : Int32))))) = some fin := hm
  refine lv_aload_n hx hb dX12_leaves_0 rfl (lv_at hl 0 rfl) ?_
  refine gR X hI fdX12_102 (la_99 hn) rf12_45 dX12_leaves_1 ?_
  refine lv_bipush (v := (6 : Int32)) hx hb dX12_leaves_4 (by decide) ?_
  refine lv_iload_n hx hb dX12_leaves_6 rfl (lv_at hl 1 rfl) ?_
  refine lv_imul hx hb dX12_leaves_7 ?_
  refine lv_iload_n hx hb dX12_leaves_8 rfl (lv_at hl 2 rfl) ?_
  refine lv_iadd hx hb dX12_leaves_9 ?_
  refine lv_iconst (v := (-1 : Int32)) hx hb dX12_leaves_10 (by decide) ?_
  obtain ⟨g1, hm⟩ := g_no hm
  refine sI X hI (la_129 hn) g1 dX12_leaves_11 (fun H locs hI => ?_)
  refine lv_aload_n hx hb dX12_leaves_12 rfl (lv_at hl 0 rfl) ?_
  refine gR X hI fdX12_105 (la_99 hn) rf12_46 dX12_leaves_13 ?_
  refine lv_bipush (v := (6 : Int32)) hx hb dX12_leaves_16 (by decide) ?_
  refine lv_iload_n hx hb dX12_leaves_18 rfl (lv_at hl 1 rfl) ?_
  refine lv_imul hx hb dX12_leaves_19 ?_
  refine lv_iload_n hx hb dX12_leaves_20 rfl (lv_at hl 2 rfl) ?_
  refine lv_iadd hx hb dX12_leaves_21 ?_
  refine lv_iconst (v := (0 : Int32)) hx hb dX12_leaves_22 (by decide) ?_
  obtain ⟨g2, hm⟩ := g_no hm
  refine sI X hI (la_130 hn) g2 dX12_leaves_23 (fun H locs hI => ?_)
  exact rV X hI hr (g_1 hm) dX12_leaves_24
abbrev rmX12_doesFlinch : Room := { frames := 0, cells := 0, slots := 0, locals := 0 }
def fX12_doesFlinch_41  (x3 : Int32) (m : Mem) : Option (Int32 × Mem) := if x3 < (50 : Int32) then (some ((0 : Int32), m)) else (some ((1 : Int32), m))
set_option maxHeartbeats 4000000 in
set_option maxRecDepth 100000 in
theorem tX12_doesFlinch_41  {l : Launch} {D : va_G} {ca : Nat → ClassId} {ad : Nat → Nat} {p : Program} {e : Env} {s : State} {mm : MethodId} {args : Array Value} {below : List Frame} {meth : Method} {c : Code}  (hn : HNr ca) (X : CX p s mm args meth c cX12_doesFlinch 4 RX12 D ca ad (WA ca ad s.heap.size)) (hr : meth.sig.returnType = (some .boolean)) (fin : (Int32 × Mem))  : ∀ (x3 : Int32) (m : Mem) (H : Heap) (locs : List Loc) (ls : Array Slot), IW D ca ad (WA ca ad s.heap.size) s m H locs → lv_has ls 4 [(3, .int x3)] → fX12_doesFlinch_41  x3 m = some fin → W p l e rmX12_doesFlinch s mm args below meth c H locs 0 0 (MQ below (QI D ca ad s.heap.size fin.1 fin.2) args s 0 0 (WA ca ad s.heap.size)) (F0 mm 41 ls []) := by
  have hx := X.1
  have hb := X.2.1
  intro x3 m H locs ls hI hl hm
  have hm : (if x3 < (50 : Int32) then (some ((0 : Int32), m)) else (some ((1 : Int32), m))) = some fin := hm
  refine lv_iload_n hx hb dX12_doesFlinch_41 rfl (lv_at hl 0 rfl) ?_
  refine lv_bipush (v := (50 : Int32)) hx hb dX12_doesFlinch_42 (by decide) ?_
  refine lv_icmp_lt (tgt := 51) hx hb dX12_doesFlinch_44 (by decide) (fun c4 => ?_) (fun c4 => ?_)
  · have hm := g_t c4 hm
    refine lv_iconst (v := (0 : Int32)) hx hb dX12_doesFlinch_51 (by decide) ?_
    exact rZ X hI hr (by decide) (g_p hm).1 (g_p hm).2 dX12_doesFlinch_52
  · have hm := g_f c4 hm
    refine lv_iconst (v := (1 : Int32)) hx hb dX12_doesFlinch_47 (by decide) ?_
    refine lv_goto (tgt := 52) hx hb dX12_doesFlinch_48 (by decide) ?_
    exact rZ X hI hr (by decide) (g_p hm).1 (g_p hm).2 dX12_doesFlinch_52
def fX12_doesFlinch  (x1 : Int32) (x2 : Int32) (m : Mem) : Option (Int32 × Mem) := if (m.1 99 52) = (5 : Int32) then (some ((1 : Int32), m)) else (if (m.1 99 52) = (1 : Int32) then (some ((0 : Int32), m)) else (if x2 = 0 then (fX12_doesFlinch_41 (m.1 101 5) m) else (if (m.1 101 5) = 0 then (fX12_doesFlinch_41 (m.1 101 5) m) else (if (m.1 101 5) = (100 : Int32) then (fX12_doesFlinch_41 (m.1 101 5) m) else (if x1 < 0 ∨ 23 ≤ x1.toNatClampNeg then none else (if x1 < 0 ∨ 23 ≤ x1.toNatClampNeg then none else (if x1 < 0 ∨ 23 ≤ x1.toNatClampNeg then none else (if (m.1 101 5) ≤ (jrem (((mI m 124 x1.toNatClampNeg ((((m.1 124 x1.toNatClampNeg) * (1103515245 : Int32)) + (12345 : Int32)) &&& (2147483647 : Int32))).1 124 x1.toNatClampNeg) >>> ((16 : Int32) &&& 31)) (100 : Int32)) then (some ((0 : Int32), (mI m 124 x1.toNatClampNeg ((((m.1 124 x1.toNatClampNeg) * (1103515245 : Int32)) + (12345 : Int32)) &&& (2147483647 : Int32))))) else (some ((1 : Int32), (mI m 124 x1.toNatClampNeg ((((m.1 124 x1.toNatClampNeg) * (1103515245 : Int32)) + (12345 : Int32)) &&& (2147483647 : Int32)))))))))))))
set_option maxHeartbeats 4000000 in
set_option maxRecDepth 100000 in
theorem ctX12_doesFlinch {l : Launch} {D : va_G} {ca : Nat → ClassId} {ad : Nat → Nat}  (x1 : Int32) (x2 : Int32)  (hn : HNr ca) (m : Mem) (fin : (Int32 × Mem)) (hm : fX12_doesFlinch x1 x2 m = some fin) : CI l D ca ad yX12_doesFlinch cwX12_doesFlinch rmX12_doesFlinch [.ref (ad 99), .int x1, .int x2] m fin.1 fin.2 := by
  refine start (by decide) (Nat.le_of_ble_eq_true rfl) ?_
  intro p e s mm args below meth c H locs ls X hI hr hl
  have X : CX p s mm args meth c cX12_doesFlinch 4 RX12 D ca ad (WA ca ad s.heap.size) := X
  have hx := X.1
  have hb := X.2.1
  have hl : lv_has ls 4 [(0, .ref (ad 99)), (1, .int x1), (2, .int x2)] := hl
  have hm : (if (m.1 99 52) = (5 : Int32) then (some ((1 : Int32), m)) else (if (m.1 99 52) = (1 : Int32) then (some ((0 : Int32), m)) else (if x2 = 0 then (fX12_doesFlinch_41 (m.1 101 5) m) else (if (m.1 101 5) = 0 then (fX12_doesFlinch_41 (m.1 101 5) m) else (if (m.1 101 5) = (100 : Int32) then (fX12_doesFlinch_41 (m.1 101 5) m) else (if x1 < 0 ∨ 23 ≤ x1.toNatClampNeg then none else (if x1 < 0 ∨ 23 ≤ x1.toNatClampNeg then none else (if x1 < 0 ∨ 23 ≤ x1.toNatClampNeg then none else (if (m.1 101 5) ≤ (jrem (((mI m 124 x1.toNatClampNeg ((((m.1 124 x1.toNatClampNeg) * (1103515245 : Int32)) + (12345 : Int32)) &&& (2147483647 : Int32))).1 124 x1.toNatClampNeg) >>> ((16 : Int32) &&& 31)) (100 : Int32)) then (some ((0 : Int32), (mI m 124 x1.toNatClampNeg ((((m.1 124 x1.toNatClampNeg) * (1103515245 : Int32)) + (12345 : Int32)) &&& (2147483647 : Int32))))) else (some ((1 : Int32), (mI m 124 x1.toNatClampNeg ((((m.1 124 x1.toNatClampNeg) * (1103515245 : Int32)) + (12345 : Int32)) &&& (2147483647 : Int32)))))))))))))) = some fin := hm
  refine lv_aload_n hx hb dX12_doesFlinch_0 rfl (lv_at hl 0 rfl) ?_
  refine gI X hI fdX12_375 (la_99 hn) dX12_doesFlinch_1 ?_
  refine lv_iconst (v := (5 : Int32)) hx hb dX12_doesFlinch_4 (by decide) ?_
  refine lv_icmp_ne (tgt := 10) hx hb dX12_doesFlinch_5 (by decide) (fun c1 => ?_) (fun c1 => ?_)
  · have hm := g_f c1 hm
    refine lv_aload_n hx hb dX12_doesFlinch_10 rfl (lv_at hl 0 rfl) ?_
    refine gI X hI fdX12_375 (la_99 hn) dX12_doesFlinch_11 ?_
    refine lv_iconst (v := (1 : Int32)) hx hb dX12_doesFlinch_14 (by decide) ?_
    refine lv_icmp_ne (tgt := 20) hx hb dX12_doesFlinch_15 (by decide) (fun c2 => ?_) (fun c2 => ?_)
    · have hm := g_f c2 hm
      refine lv_aload_n hx hb dX12_doesFlinch_20 rfl (lv_at hl 0 rfl) ?_
      refine gR X hI fdX12_13 (la_99 hn) rf12_3 dX12_doesFlinch_21 ?_
      refine lv_iconst (v := (5 : Int32)) hx hb dX12_doesFlinch_24 (by decide) ?_
      refine aIc (j := 5) X hI (la_101 hn) (by decide) (by decide) dX12_doesFlinch_25 ?_
      refine lv_istore_n (lv' := [(3, .int (m.1 101 5)), (0, .ref (ad 99)), (1, .int x1), (2, .int x2)]) hx hb dX12_doesFlinch_26 rfl hl (by decide) rfl (fun ls hl => ?_)
      refine lv_iload_n hx hb dX12_doesFlinch_27 rfl (lv_at hl 3 rfl) ?_
      refine lv_if_eq (tgt := 41) hx hb dX12_doesFlinch_28 (by decide) (fun c3 => ?_) (fun c3 => ?_)
      · have hm := g_t c3 hm
        exact tX12_doesFlinch_41  hn X hr fin  (m.1 101 5) m H locs ls hI (lv_sub hl [0] rfl) hm
      · have hm := g_f c3 hm
        refine lv_iload_n hx hb dX12_doesFlinch_31 rfl (lv_at hl 0 rfl) ?_
        refine lv_if_eq (tgt := 41) hx hb dX12_doesFlinch_32 (by decide) (fun c5 => ?_) (fun c5 => ?_)
        · have hm := g_t c5 hm
          exact tX12_doesFlinch_41  hn X hr fin  (m.1 101 5) m H locs ls hI (lv_sub hl [0] rfl) hm
        · have hm := g_f c5 hm
          refine lv_iload_n hx hb dX12_doesFlinch_35 rfl (lv_at hl 0 rfl) ?_
          refine lv_bipush (v := (100 : Int32)) hx hb dX12_doesFlinch_36 (by decide) ?_
          refine lv_icmp_ne (tgt := 53) hx hb dX12_doesFlinch_38 (by decide) (fun c6 => ?_) (fun c6 => ?_)
          · have hm := g_f c6 hm
            refine lv_aload_n hx hb dX12_doesFlinch_53 rfl (lv_at hl 1 rfl) ?_
            refine gR X hI fdX12_87 (la_99 hn) rf12_40 dX12_doesFlinch_54 ?_
            refine lv_iload_n hx hb dX12_doesFlinch_57 rfl (lv_at hl 2 rfl) ?_
            refine lv_aload_n hx hb dX12_doesFlinch_58 rfl (lv_at hl 1 rfl) ?_
            refine gR X hI fdX12_87 (la_99 hn) rf12_40 dX12_doesFlinch_59 ?_
            refine lv_iload_n hx hb dX12_doesFlinch_62 rfl (lv_at hl 2 rfl) ?_
            obtain ⟨g7, hm⟩ := g_no hm
            refine aI X hI (la_124 hn) g7 dX12_doesFlinch_63 ?_
            refine lv_ldcw hx hb X.2.2.2.1 (X.2.2.2.2.1 _ kcX12_378) dX12_doesFlinch_64 ?_
            refine lv_imul hx hb dX12_doesFlinch_67 ?_
            refine lv_sipush (v := (12345 : Int32)) hx hb dX12_doesFlinch_68 (by decide) ?_
            refine lv_iadd hx hb dX12_doesFlinch_71 ?_
            refine lv_ldcw hx hb X.2.2.2.1 (X.2.2.2.2.1 _ kcX12_381) dX12_doesFlinch_72 ?_
            refine lv_iand hx hb dX12_doesFlinch_75 ?_
            obtain ⟨g8, hm⟩ := g_no hm
            refine sI X hI (la_124 hn) g8 dX12_doesFlinch_76 (fun H locs hI => ?_)
            refine lv_aload_n hx hb dX12_doesFlinch_77 rfl (lv_at hl 1 rfl) ?_
            refine gR X hI fdX12_87 (la_99 hn) rf12_40 dX12_doesFlinch_78 ?_
            refine lv_iload_n hx hb dX12_doesFlinch_81 rfl (lv_at hl 2 rfl) ?_
            obtain ⟨g9, hm⟩ := g_no hm
            refine aI X hI (la_124 hn) g9 dX12_doesFlinch_82 ?_
            refine lv_bipush (v := (16 : Int32)) hx hb dX12_doesFlinch_83 (by decide) ?_
            refine lv_ishr hx hb dX12_doesFlinch_85 ?_
            refine lv_bipush (v := (100 : Int32)) hx hb dX12_doesFlinch_86 (by decide) ?_
            refine kRem hx hb dX12_doesFlinch_88 (by decide) ?_
            refine lv_iload_n hx hb dX12_doesFlinch_89 rfl (lv_at hl 0 rfl) ?_
            refine lv_icmp_ge (tgt := 97) hx hb dX12_doesFlinch_90 (by decide) (fun c10 => ?_) (fun c10 => ?_)
            · have hm := g_t c10 hm
              refine lv_iconst (v := (0 : Int32)) hx hb dX12_doesFlinch_97 (by decide) ?_
              exact rZ X hI hr (by decide) (g_p hm).1 (g_p hm).2 dX12_doesFlinch_98
            · have hm := g_f c10 hm
              refine lv_iconst (v := (1 : Int32)) hx hb dX12_doesFlinch_93 (by decide) ?_
              refine lv_goto (tgt := 98) hx hb dX12_doesFlinch_94 (by decide) ?_
              exact rZ X hI hr (by decide) (g_p hm).1 (g_p hm).2 dX12_doesFlinch_98
          · have hm := g_t c6 hm
            exact tX12_doesFlinch_41  hn X hr fin  (m.1 101 5) m H locs ls hI (lv_sub hl [0] rfl) hm
    · have hm := g_t c2 hm
      refine lv_iconst (v := (0 : Int32)) hx hb dX12_doesFlinch_18 (by decide) ?_
      exact rZ X hI hr (by decide) (g_p hm).1 (g_p hm).2 dX12_doesFlinch_19
  · have hm := g_t c1 hm
    refine lv_iconst (v := (1 : Int32)) hx hb dX12_doesFlinch_8 (by decide) ?_
    exact rZ X hI hr (by decide) (g_p hm).1 (g_p hm).2 dX12_doesFlinch_9
abbrev rmX12_bears : Room := { frames := 4, cells := 0, slots := 0, locals := 97 }
def fX12_bears_94 (N : Nat) (x1 : Int32) (x2 : Int32) (x4 : Int32) (x5 : Int32) (m : Mem) : Option Mem := if x4 < 0 ∨ 138 ≤ x4.toNatClampNeg then none else (if x4 < 0 ∨ 138 ≤ x4.toNatClampNeg then none else (if x4 < 0 ∨ 138 ≤ x4.toNatClampNeg then none else (if x4 < 0 ∨ 138 ≤ x4.toNatClampNeg then none else (if x4 < 0 ∨ 138 ≤ x4.toNatClampNeg then none else ((fX12_calls x1 x2 x5 ((mI (mI m 131 x4.toNatClampNeg (imin (9999 : Int32) ((m.1 131 x4.toNatClampNeg) + (1 : Int32)))) 130 x4.toNatClampNeg (((mI m 131 x4.toNatClampNeg (imin (9999 : Int32) ((m.1 131 x4.toNatClampNeg) + (1 : Int32)))).1 130 x4.toNatClampNeg) + (1 : Int32))).1 130 x4.toNatClampNeg) (mI (mI m 131 x4.toNatClampNeg (imin (9999 : Int32) ((m.1 131 x4.toNatClampNeg) + (1 : Int32)))) 130 x4.toNatClampNeg (((mI m 131 x4.toNatClampNeg (imin (9999 : Int32) ((m.1 131 x4.toNatClampNeg) + (1 : Int32)))).1 130 x4.toNatClampNeg) + (1 : Int32)))).bind (fun q14 => if x4 < 0 ∨ 138 ≤ x4.toNatClampNeg then none else ((fX12_within N (2 : Int32) (-9 : Int32) (9 : Int32) (0 : Int32) q14).bind (fun q17 => if x4 < 0 ∨ 138 ≤ x4.toNatClampNeg then none else (some (mI q17.2 128 x4.toNatClampNeg (imax (0 : Int32) (imin (99 : Int32) ((q14.1 128 x4.toNatClampNeg) + q17.1)))))))))))))
set_option maxHeartbeats 4000000 in
set_option maxRecDepth 100000 in
theorem tX12_bears_94 (N : Nat) {l : Launch} {D : va_G} {ca : Nat → ClassId} {ad : Nat → Nat} {p : Program} {e : Env} {s : State} {mm : MethodId} {args : Array Value} {below : List Frame} {meth : Method} {c : Code}  (hn : HNr ca) (X : CX p s mm args meth c cX12_bears 6 RX12 D ca ad (WA ca ad s.heap.size)) (hr : meth.sig.returnType = none) (fin : Mem)  : ∀ (x1 : Int32) (x2 : Int32) (x4 : Int32) (x5 : Int32) (m : Mem) (H : Heap) (locs : List Loc) (ls : Array Slot), IW D ca ad (WA ca ad s.heap.size) s m H locs → lv_has ls 6 [(0, .ref (ad 99)), (1, .int x1), (2, .int x2), (4, .int x4), (5, .int x5)] → fX12_bears_94 N x1 x2 x4 x5 m = some fin → W p l e rmX12_bears s mm args below meth c H locs 0 0 (MQ below (QV D ca ad s.heap.size fin) args s 0 0 (WA ca ad s.heap.size)) (F0 mm 94 ls []) := by
  have hx := X.1
  have hb := X.2.1
  intro x1 x2 x4 x5 m H locs ls hI hl hm
  have hm : (if x4 < 0 ∨ 138 ≤ x4.toNatClampNeg then none else (if x4 < 0 ∨ 138 ≤ x4.toNatClampNeg then none else (if x4 < 0 ∨ 138 ≤ x4.toNatClampNeg then none else (if x4 < 0 ∨ 138 ≤ x4.toNatClampNeg then none else (if x4 < 0 ∨ 138 ≤ x4.toNatClampNeg then none else ((fX12_calls x1 x2 x5 ((mI (mI m 131 x4.toNatClampNeg (imin (9999 : Int32) ((m.1 131 x4.toNatClampNeg) + (1 : Int32)))) 130 x4.toNatClampNeg (((mI m 131 x4.toNatClampNeg (imin (9999 : Int32) ((m.1 131 x4.toNatClampNeg) + (1 : Int32)))).1 130 x4.toNatClampNeg) + (1 : Int32))).1 130 x4.toNatClampNeg) (mI (mI m 131 x4.toNatClampNeg (imin (9999 : Int32) ((m.1 131 x4.toNatClampNeg) + (1 : Int32)))) 130 x4.toNatClampNeg (((mI m 131 x4.toNatClampNeg (imin (9999 : Int32) ((m.1 131 x4.toNatClampNeg) + (1 : Int32)))).1 130 x4.toNatClampNeg) + (1 : Int32)))).bind (fun q14 => if x4 < 0 ∨ 138 ≤ x4.toNatClampNeg then none else ((fX12_within N (2 : Int32) (-9 : Int32) (9 : Int32) (0 : Int32) q14).bind (fun q17 => if x4 < 0 ∨ 138 ≤ x4.toNatClampNeg then none else (some (mI q17.2 128 x4.toNatClampNeg (imax (0 : Int32) (imin (99 : Int32) ((q14.1 128 x4.toNatClampNeg) + q17.1)))))))))))))) = some fin := hm
  refine lv_aload_n hx hb dX12_bears_94 rfl (lv_at hl 0 rfl) ?_
  refine gR X hI fdX12_108 (la_99 hn) rf12_47 dX12_bears_95 ?_
  refine lv_iload hx hb dX12_bears_98 (lv_at hl 3 rfl) ?_
  refine lv_sipush (v := (9999 : Int32)) hx hb dX12_bears_100 (by decide) ?_
  refine lv_aload_n hx hb dX12_bears_103 rfl (lv_at hl 0 rfl) ?_
  refine gR X hI fdX12_108 (la_99 hn) rf12_47 dX12_bears_104 ?_
  refine lv_iload hx hb dX12_bears_107 (lv_at hl 3 rfl) ?_
  obtain ⟨g9, hm⟩ := g_no hm
  refine aI X hI (la_131 hn) g9 dX12_bears_109 ?_
  refine lv_iconst (v := (1 : Int32)) hx hb dX12_bears_110 (by decide) ?_
  refine lv_iadd hx hb dX12_bears_111 ?_
  refine kMin X mpX12_364 hl.1 (Nat.le_of_ble_eq_true rfl) (Nat.le_of_ble_eq_true rfl) dX12_bears_112 ?_
  obtain ⟨g10, hm⟩ := g_no hm
  refine sI X hI (la_131 hn) g10 dX12_bears_115 (fun H locs hI => ?_)
  refine lv_aload_n hx hb dX12_bears_116 rfl (lv_at hl 0 rfl) ?_
  refine gR X hI fdX12_105 (la_99 hn) rf12_46 dX12_bears_117 ?_
  refine lv_iload hx hb dX12_bears_120 (lv_at hl 3 rfl) ?_
  refine lv_dup2_11 hx hb dX12_bears_122 rfl rfl ?_
  obtain ⟨g11, hm⟩ := g_no hm
  refine aI X hI (la_130 hn) g11 dX12_bears_123 ?_
  refine lv_iconst (v := (1 : Int32)) hx hb dX12_bears_124 (by decide) ?_
  refine lv_iadd hx hb dX12_bears_125 ?_
  obtain ⟨g12, hm⟩ := g_no hm
  refine sI X hI (la_130 hn) g12 dX12_bears_126 (fun H locs hI => ?_)
  refine lv_aload_n hx hb dX12_bears_127 rfl (lv_at hl 0 rfl) ?_
  refine lv_iload_n hx hb dX12_bears_128 rfl (lv_at hl 1 rfl) ?_
  refine lv_iload_n hx hb dX12_bears_129 rfl (lv_at hl 2 rfl) ?_
  refine lv_iload hx hb dX12_bears_130 (lv_at hl 4 rfl) ?_
  refine lv_aload_n hx hb dX12_bears_132 rfl (lv_at hl 0 rfl) ?_
  refine gR X hI fdX12_105 (la_99 hn) rf12_46 dX12_bears_133 ?_
  refine lv_iload hx hb dX12_bears_136 (lv_at hl 3 rfl) ?_
  obtain ⟨g13, hm⟩ := g_no hm
  refine aI X hI (la_130 hn) g13 dX12_bears_138 ?_
  obtain ⟨q14, h15, hm⟩ := g_b hm
  refine backV X hI (runV X hI (ctX12_calls x1 x2 x5 ((mI (mI m 131 x4.toNatClampNeg (imin (9999 : Int32) ((m.1 131 x4.toNatClampNeg) + (1 : Int32)))) 130 x4.toNatClampNeg (((mI m 131 x4.toNatClampNeg (imin (9999 : Int32) ((m.1 131 x4.toNatClampNeg) + (1 : Int32)))).1 130 x4.toNatClampNeg) + (1 : Int32))).1 130 x4.toNatClampNeg)  hn _ _ h15 _) mdX12_356 (la_99 hn) rfl ⟨rfl, rfl⟩ ⟨Nat.le_of_ble_eq_true rfl, Nat.le_of_ble_eq_true rfl⟩ rfl hl.1 rfl (Nat.le_of_ble_eq_true rfl) dX12_bears_139) (fun H locs hI => ?_)
  refine lv_aload_n hx hb dX12_bears_142 rfl (lv_at hl 0 rfl) ?_
  refine gR X hI fdX12_99 (la_99 hn) rf12_44 dX12_bears_143 ?_
  refine lv_iload hx hb dX12_bears_146 (lv_at hl 3 rfl) ?_
  refine lv_iconst (v := (0 : Int32)) hx hb dX12_bears_148 (by decide) ?_
  refine lv_bipush (v := (99 : Int32)) hx hb dX12_bears_149 (by decide) ?_
  refine lv_aload_n hx hb dX12_bears_151 rfl (lv_at hl 0 rfl) ?_
  refine gR X hI fdX12_99 (la_99 hn) rf12_44 dX12_bears_152 ?_
  refine lv_iload hx hb dX12_bears_155 (lv_at hl 3 rfl) ?_
  obtain ⟨g16, hm⟩ := g_no hm
  refine aI X hI (la_128 hn) g16 dX12_bears_157 ?_
  refine lv_aload_n hx hb dX12_bears_158 rfl (lv_at hl 0 rfl) ?_
  refine lv_iconst (v := (2 : Int32)) hx hb dX12_bears_159 (by decide) ?_
  refine lv_bipush (v := (-9 : Int32)) hx hb dX12_bears_160 (by decide) ?_
  refine lv_bipush (v := (9 : Int32)) hx hb dX12_bears_162 (by decide) ?_
  refine lv_iconst (v := (0 : Int32)) hx hb dX12_bears_164 (by decide) ?_
  obtain ⟨q17, h18, hm⟩ := g_b hm
  refine backI X hI (runV X hI (ctX12_within N (2 : Int32) (-9 : Int32) (9 : Int32) (0 : Int32)  hn _ _ h18 _) mdX12_372 (la_99 hn) rfl ⟨rfl, rfl⟩ ⟨Nat.le_of_ble_eq_true rfl, Nat.le_of_ble_eq_true rfl⟩ rfl hl.1 rfl (Nat.le_of_ble_eq_true rfl) dX12_bears_165) (fun H locs hI => ?_)
  refine lv_iadd hx hb dX12_bears_168 ?_
  refine kMin X mpX12_364 hl.1 (Nat.le_of_ble_eq_true rfl) (Nat.le_of_ble_eq_true rfl) dX12_bears_169 ?_
  refine kMax X mpX12_370 hl.1 (Nat.le_of_ble_eq_true rfl) (Nat.le_of_ble_eq_true rfl) dX12_bears_172 ?_
  obtain ⟨g19, hm⟩ := g_no hm
  refine sI X hI (la_128 hn) g19 dX12_bears_175 (fun H locs hI => ?_)
  exact rV X hI hr (g_1 hm) dX12_bears_176
def fX12_bears (N : Nat) (x1 : Int32) (x2 : Int32) (x3 : Int32) (m : Mem) : Option Mem := if (((6 : Int32) * x1) + x2) < 0 ∨ 138 ≤ (((6 : Int32) * x1) + x2).toNatClampNeg then none else (if (((6 : Int32) * x1) + x2) < 0 ∨ 138 ≤ (((6 : Int32) * x1) + x2).toNatClampNeg then none else ((fX12_isAtEase N x1 x2 (m.1 129 (((6 : Int32) * x1) + x2).toNatClampNeg) (m.1 130 (((6 : Int32) * x1) + x2).toNatClampNeg) m).bind (fun q3 => if q3.1 = 0 then ((fX12_doesFlinch x1 x3 q3.2).bind (fun q6 => if q6.1 = 0 then (fX12_bears_94 N x1 x2 (((6 : Int32) * x1) + x2) (m.1 129 (((6 : Int32) * x1) + x2).toNatClampNeg) q6.2) else (if (((6 : Int32) * x1) + x2) < 0 ∨ 138 ≤ (((6 : Int32) * x1) + x2).toNatClampNeg then none else (if (((6 : Int32) * x1) + x2) < 0 ∨ 138 ≤ (((6 : Int32) * x1) + x2).toNatClampNeg then none else ((fX12_leaves x1 x2 (mI q6.2 133 (((6 : Int32) * x1) + x2).toNatClampNeg ((q6.2.1 133 (((6 : Int32) * x1) + x2).toNatClampNeg) + (1 : Int32)))).bind (fun q22 => some q22)))))) else (if (((6 : Int32) * x1) + x2) < 0 ∨ 138 ≤ (((6 : Int32) * x1) + x2).toNatClampNeg then none else (if (((6 : Int32) * x1) + (m.1 129 (((6 : Int32) * x1) + x2).toNatClampNeg)) < 0 ∨ 138 ≤ (((6 : Int32) * x1) + (m.1 129 (((6 : Int32) * x1) + x2).toNatClampNeg)).toNatClampNeg then none else (if (((6 : Int32) * x1) + x2) < 0 ∨ 138 ≤ (((6 : Int32) * x1) + x2).toNatClampNeg then none else (fX12_bears_94 N x1 x2 (((6 : Int32) * x1) + x2) (m.1 129 (((6 : Int32) * x1) + x2).toNatClampNeg) (mI q3.2 132 (((6 : Int32) * x1) + x2).toNatClampNeg (imax (q3.2.1 132 (((6 : Int32) * x1) + x2).toNatClampNeg) (q3.2.1 127 (((6 : Int32) * x1) + (m.1 129 (((6 : Int32) * x1) + x2).toNatClampNeg)).toNatClampNeg))))))))))
set_option maxHeartbeats 4000000 in
set_option maxRecDepth 100000 in
theorem ctX12_bears {l : Launch} {D : va_G} {ca : Nat → ClassId} {ad : Nat → Nat} (N : Nat) (x1 : Int32) (x2 : Int32) (x3 : Int32)  (hn : HNr ca) (m : Mem) (fin : Mem) (hm : fX12_bears N x1 x2 x3 m = some fin) : CV l D ca ad yX12_bears cwX12_bears rmX12_bears [.ref (ad 99), .int x1, .int x2, .int x3] m fin := by
  refine start (by decide) (Nat.le_of_ble_eq_true rfl) ?_
  intro p e s mm args below meth c H locs ls X hI hr hl
  have X : CX p s mm args meth c cX12_bears 6 RX12 D ca ad (WA ca ad s.heap.size) := X
  have hx := X.1
  have hb := X.2.1
  have hl : lv_has ls 6 [(0, .ref (ad 99)), (1, .int x1), (2, .int x2), (3, .int x3)] := hl
  have hm : (if (((6 : Int32) * x1) + x2) < 0 ∨ 138 ≤ (((6 : Int32) * x1) + x2).toNatClampNeg then none else (if (((6 : Int32) * x1) + x2) < 0 ∨ 138 ≤ (((6 : Int32) * x1) + x2).toNatClampNeg then none else ((fX12_isAtEase N x1 x2 (m.1 129 (((6 : Int32) * x1) + x2).toNatClampNeg) (m.1 130 (((6 : Int32) * x1) + x2).toNatClampNeg) m).bind (fun q3 => if q3.1 = 0 then ((fX12_doesFlinch x1 x3 q3.2).bind (fun q6 => if q6.1 = 0 then (fX12_bears_94 N x1 x2 (((6 : Int32) * x1) + x2) (m.1 129 (((6 : Int32) * x1) + x2).toNatClampNeg) q6.2) else (if (((6 : Int32) * x1) + x2) < 0 ∨ 138 ≤ (((6 : Int32) * x1) + x2).toNatClampNeg then none else (if (((6 : Int32) * x1) + x2) < 0 ∨ 138 ≤ (((6 : Int32) * x1) + x2).toNatClampNeg then none else ((fX12_leaves x1 x2 (mI q6.2 133 (((6 : Int32) * x1) + x2).toNatClampNeg ((q6.2.1 133 (((6 : Int32) * x1) + x2).toNatClampNeg) + (1 : Int32)))).bind (fun q22 => some q22)))))) else (if (((6 : Int32) * x1) + x2) < 0 ∨ 138 ≤ (((6 : Int32) * x1) + x2).toNatClampNeg then none else (if (((6 : Int32) * x1) + (m.1 129 (((6 : Int32) * x1) + x2).toNatClampNeg)) < 0 ∨ 138 ≤ (((6 : Int32) * x1) + (m.1 129 (((6 : Int32) * x1) + x2).toNatClampNeg)).toNatClampNeg then none else (if (((6 : Int32) * x1) + x2) < 0 ∨ 138 ≤ (((6 : Int32) * x1) + x2).toNatClampNeg then none else (fX12_bears_94 N x1 x2 (((6 : Int32) * x1) + x2) (m.1 129 (((6 : Int32) * x1) + x2).toNatClampNeg) (mI q3.2 132 (((6 : Int32) * x1) + x2).toNatClampNeg (imax (q3.2.1 132 (((6 : Int32) * x1) + x2).toNatClampNeg) (q3.2.1 127 (((6 : Int32) * x1) + (m.1 129 (((6 : Int32) * x1) + x2).toNatClampNeg)).toNatClampNeg))))))))))) = some fin := hm
  refine lv_bipush (v := (6 : Int32)) hx hb dX12_bears_0 (by decide) ?_
  refine lv_iload_n hx hb dX12_bears_2 rfl (lv_at hl 1 rfl) ?_
  refine lv_imul hx hb dX12_bears_3 ?_
  refine lv_iload_n hx hb dX12_bears_4 rfl (lv_at hl 2 rfl) ?_
  refine lv_iadd hx hb dX12_bears_5 ?_
  refine lv_istore (lv' := [(4, .int (((6 : Int32) * x1) + x2)), (0, .ref (ad 99)), (1, .int x1), (2, .int x2), (3, .int x3)]) hx hb dX12_bears_6 hl (by decide) rfl (fun ls hl => ?_)
  refine lv_aload_n hx hb dX12_bears_8 rfl (lv_at hl 1 rfl) ?_
  refine gR X hI fdX12_102 (la_99 hn) rf12_45 dX12_bears_9 ?_
  refine lv_iload hx hb dX12_bears_12 (lv_at hl 0 rfl) ?_
  obtain ⟨g1, hm⟩ := g_no hm
  refine aI X hI (la_129 hn) g1 dX12_bears_14 ?_
  refine lv_istore (lv' := [(5, .int (m.1 129 (((6 : Int32) * x1) + x2).toNatClampNeg)), (4, .int (((6 : Int32) * x1) + x2)), (0, .ref (ad 99)), (1, .int x1), (2, .int x2), (3, .int x3)]) hx hb dX12_bears_15 hl (by decide) rfl (fun ls hl => ?_)
  refine lv_aload_n hx hb dX12_bears_17 rfl (lv_at hl 2 rfl) ?_
  refine lv_iload_n hx hb dX12_bears_18 rfl (lv_at hl 3 rfl) ?_
  refine lv_iload_n hx hb dX12_bears_19 rfl (lv_at hl 4 rfl) ?_
  refine lv_iload hx hb dX12_bears_20 (lv_at hl 0 rfl) ?_
  refine lv_aload_n hx hb dX12_bears_22 rfl (lv_at hl 2 rfl) ?_
  refine gR X hI fdX12_105 (la_99 hn) rf12_46 dX12_bears_23 ?_
  refine lv_iload hx hb dX12_bears_26 (lv_at hl 1 rfl) ?_
  obtain ⟨g2, hm⟩ := g_no hm
  refine aI X hI (la_130 hn) g2 dX12_bears_28 ?_
  obtain ⟨q3, h4, hm⟩ := g_b hm
  refine backI X hI (runV X hI (ctX12_isAtEase N x1 x2 (m.1 129 (((6 : Int32) * x1) + x2).toNatClampNeg) (m.1 130 (((6 : Int32) * x1) + x2).toNatClampNeg)  hn _ _ h4 _) mdX12_382 (la_99 hn) rfl ⟨rfl, rfl⟩ ⟨Nat.le_of_ble_eq_true rfl, Nat.le_of_ble_eq_true rfl⟩ rfl hl.1 rfl (Nat.le_of_ble_eq_true rfl) dX12_bears_29) (fun H locs hI => ?_)
  refine lv_if_eq (tgt := 67) hx hb dX12_bears_32 (by decide) (fun c5 => ?_) (fun c5 => ?_)
  · have hm := g_t c5 hm
    refine lv_aload_n hx hb dX12_bears_67 rfl (lv_at hl 2 rfl) ?_
    refine lv_iload_n hx hb dX12_bears_68 rfl (lv_at hl 3 rfl) ?_
    refine lv_iload_n hx hb dX12_bears_69 rfl (lv_at hl 5 rfl) ?_
    obtain ⟨q6, h7, hm⟩ := g_b hm
    refine backI X hI (runV X hI (ctX12_doesFlinch x1 x3  hn _ _ h7 _) mdX12_385 (la_99 hn) rfl ⟨rfl, rfl⟩ ⟨Nat.le_of_ble_eq_true rfl, Nat.le_of_ble_eq_true rfl⟩ rfl hl.1 rfl (Nat.le_of_ble_eq_true rfl) dX12_bears_70) (fun H locs hI => ?_)
    refine lv_if_eq (tgt := 94) hx hb dX12_bears_73 (by decide) (fun c8 => ?_) (fun c8 => ?_)
    · have hm := g_t c8 hm
      exact tX12_bears_94 N hn X hr fin  x1 x2 (((6 : Int32) * x1) + x2) (m.1 129 (((6 : Int32) * x1) + x2).toNatClampNeg) q6.2 H locs ls hI (lv_sub hl [2, 3, 4, 1, 0] rfl) hm
    · have hm := g_f c8 hm
      refine lv_aload_n hx hb dX12_bears_76 rfl (lv_at hl 2 rfl) ?_
      refine gR X hI fdX12_114 (la_99 hn) rf12_49 dX12_bears_77 ?_
      refine lv_iload hx hb dX12_bears_80 (lv_at hl 1 rfl) ?_
      refine lv_dup2_11 hx hb dX12_bears_82 rfl rfl ?_
      obtain ⟨g20, hm⟩ := g_no hm
      refine aI X hI (la_133 hn) g20 dX12_bears_83 ?_
      refine lv_iconst (v := (1 : Int32)) hx hb dX12_bears_84 (by decide) ?_
      refine lv_iadd hx hb dX12_bears_85 ?_
      obtain ⟨g21, hm⟩ := g_no hm
      refine sI X hI (la_133 hn) g21 dX12_bears_86 (fun H locs hI => ?_)
      refine lv_aload_n hx hb dX12_bears_87 rfl (lv_at hl 2 rfl) ?_
      refine lv_iload_n hx hb dX12_bears_88 rfl (lv_at hl 3 rfl) ?_
      refine lv_iload_n hx hb dX12_bears_89 rfl (lv_at hl 4 rfl) ?_
      obtain ⟨q22, h23, hm⟩ := g_b hm
      refine backV X hI (runV X hI (ctX12_leaves x1 x2  hn _ _ h23 _) mdX12_389 (la_99 hn) rfl ⟨rfl, rfl⟩ ⟨Nat.le_of_ble_eq_true rfl, Nat.le_of_ble_eq_true rfl⟩ rfl hl.1 rfl (Nat.le_of_ble_eq_true rfl) dX12_bears_90) (fun H locs hI => ?_)
      exact rV X hI hr (g_1 hm) dX12_bears_93
  · have hm := g_f c5 hm
    refine lv_aload_n hx hb dX12_bears_35 rfl (lv_at hl 2 rfl) ?_
    refine gR X hI fdX12_111 (la_99 hn) rf12_48 dX12_bears_36 ?_
    refine lv_iload hx hb dX12_bears_39 (lv_at hl 1 rfl) ?_
    refine lv_aload_n hx hb dX12_bears_41 rfl (lv_at hl 2 rfl) ?_
    refine gR X hI fdX12_111 (la_99 hn) rf12_48 dX12_bears_42 ?_
    refine lv_iload hx hb dX12_bears_45 (lv_at hl 1 rfl) ?_
    obtain ⟨g24, hm⟩ := g_no hm
    refine aI X hI (la_132 hn) g24 dX12_bears_47 ?_
    refine lv_aload_n hx hb dX12_bears_48 rfl (lv_at hl 2 rfl) ?_
    refine gR X hI fdX12_96 (la_99 hn) rf12_43 dX12_bears_49 ?_
    refine lv_bipush (v := (6 : Int32)) hx hb dX12_bears_52 (by decide) ?_
    refine lv_iload_n hx hb dX12_bears_54 rfl (lv_at hl 3 rfl) ?_
    refine lv_imul hx hb dX12_bears_55 ?_
    refine lv_iload hx hb dX12_bears_56 (lv_at hl 0 rfl) ?_
    refine lv_iadd hx hb dX12_bears_58 ?_
    obtain ⟨g25, hm⟩ := g_no hm
    refine aI X hI (la_127 hn) g25 dX12_bears_59 ?_
    refine kMax X mpX12_370 hl.1 (Nat.le_of_ble_eq_true rfl) (Nat.le_of_ble_eq_true rfl) dX12_bears_60 ?_
    obtain ⟨g26, hm⟩ := g_no hm
    refine sI X hI (la_132 hn) g26 dX12_bears_63 (fun H locs hI => ?_)
    refine lv_goto (tgt := 94) hx hb dX12_bears_64 (by decide) ?_
    exact tX12_bears_94 N hn X hr fin  x1 x2 (((6 : Int32) * x1) + x2) (m.1 129 (((6 : Int32) * x1) + x2).toNatClampNeg) (mI q3.2 132 (((6 : Int32) * x1) + x2).toNatClampNeg (imax (q3.2.1 132 (((6 : Int32) * x1) + x2).toNatClampNeg) (q3.2.1 127 (((6 : Int32) * x1) + (m.1 129 (((6 : Int32) * x1) + x2).toNatClampNeg)).toNatClampNeg))) H locs ls hI (lv_sub hl [2, 3, 4, 1, 0] rfl) hm
abbrev rmX12_passes : Room := { frames := 5, cells := 0, slots := 0, locals := 122 }
def fX12_passes_222 (N : Nat) : Nat → Int32 → Int32 → Int32 → Mem → Option Mem
  | 0, _, _, _, _ => none
  | n + 1, x1, x2, x3, m => if (m.1 101 0) ≤ x3 then (if x1 < 0 ∨ 23 ≤ x1.toNatClampNeg then none else (if x1 < 0 ∨ 23 ≤ x1.toNatClampNeg then none else (some (mI m 123 x1.toNatClampNeg ((m.1 123 x1.toNatClampNeg) + (1 : Int32)))))) else (if (((6 : Int32) * x1) + x3) < 0 ∨ 138 ≤ (((6 : Int32) * x1) + x3).toNatClampNeg then none else (if (m.1 129 (((6 : Int32) * x1) + x3).toNatClampNeg) = (-1 : Int32) then (fX12_passes_222 N n x1 x2 (x3 + (1 : Int32)) m) else ((fX12_bears N x1 x3 x2 m).bind (fun q6 => fX12_passes_222 N n x1 x2 (x3 + (1 : Int32)) q6))))
set_option maxHeartbeats 4000000 in
set_option maxRecDepth 100000 in
theorem tX12_passes_222 (N : Nat) {l : Launch} {D : va_G} {ca : Nat → ClassId} {ad : Nat → Nat} {p : Program} {e : Env} {s : State} {mm : MethodId} {args : Array Value} {below : List Frame} {meth : Method} {c : Code}  (hn : HNr ca) (X : CX p s mm args meth c cX12_passes 4 RX12 D ca ad (WA ca ad s.heap.size)) (hr : meth.sig.returnType = none) (fin : Mem)  : ∀ (n : Nat) (x1 : Int32) (x2 : Int32) (x3 : Int32) (m : Mem) (H : Heap) (locs : List Loc) (ls : Array Slot), IW D ca ad (WA ca ad s.heap.size) s m H locs → lv_has ls 4 [(0, .ref (ad 99)), (1, .int x1), (2, .int x2), (3, .int x3)] → fX12_passes_222 N n x1 x2 x3 m = some fin → W p l e rmX12_passes s mm args below meth c H locs 0 0 (MQ below (QV D ca ad s.heap.size fin) args s 0 0 (WA ca ad s.heap.size)) (F0 mm 222 ls []) := by
  have hx := X.1
  have hb := X.2.1
  intro n
  induction n with
  | zero => intro x1 x2 x3 m H locs ls hI hl hm
            exact absurd hm (by intro q; cases q)
  | succ n ih =>
    intro x1 x2 x3 m H locs ls hI hl hm
    have hm : (if (m.1 101 0) ≤ x3 then (if x1 < 0 ∨ 23 ≤ x1.toNatClampNeg then none else (if x1 < 0 ∨ 23 ≤ x1.toNatClampNeg then none else (some (mI m 123 x1.toNatClampNeg ((m.1 123 x1.toNatClampNeg) + (1 : Int32)))))) else (if (((6 : Int32) * x1) + x3) < 0 ∨ 138 ≤ (((6 : Int32) * x1) + x3).toNatClampNeg then none else (if (m.1 129 (((6 : Int32) * x1) + x3).toNatClampNeg) = (-1 : Int32) then (fX12_passes_222 N n x1 x2 (x3 + (1 : Int32)) m) else ((fX12_bears N x1 x3 x2 m).bind (fun q6 => fX12_passes_222 N n x1 x2 (x3 + (1 : Int32)) q6))))) = some fin := hm
    refine lv_iload_n hx hb dX12_passes_222 rfl (lv_at hl 3 rfl) ?_
    refine lv_aload_n hx hb dX12_passes_223 rfl (lv_at hl 0 rfl) ?_
    refine gR X hI fdX12_13 (la_99 hn) rf12_3 dX12_passes_224 ?_
    refine lv_iconst (v := (0 : Int32)) hx hb dX12_passes_227 (by decide) ?_
    refine aIc (j := 0) X hI (la_101 hn) (by decide) (by decide) dX12_passes_228 ?_
    refine lv_icmp_ge (tgt := 260) hx hb dX12_passes_229 (by decide) (fun c1 => ?_) (fun c1 => ?_)
    · have hm := g_t c1 hm
      refine lv_aload_n hx hb dX12_passes_260 rfl (lv_at hl 0 rfl) ?_
      refine gR X hI fdX12_84 (la_99 hn) rf12_39 dX12_passes_261 ?_
      refine lv_iload_n hx hb dX12_passes_264 rfl (lv_at hl 1 rfl) ?_
      refine lv_dup2_11 hx hb dX12_passes_265 rfl rfl ?_
      obtain ⟨g2, hm⟩ := g_no hm
      refine aI X hI (la_123 hn) g2 dX12_passes_266 ?_
      refine lv_iconst (v := (1 : Int32)) hx hb dX12_passes_267 (by decide) ?_
      refine lv_iadd hx hb dX12_passes_268 ?_
      obtain ⟨g3, hm⟩ := g_no hm
      refine sI X hI (la_123 hn) g3 dX12_passes_269 (fun H locs hI => ?_)
      exact rV X hI hr (g_1 hm) dX12_passes_270
    · have hm := g_f c1 hm
      refine lv_aload_n hx hb dX12_passes_232 rfl (lv_at hl 0 rfl) ?_
      refine gR X hI fdX12_102 (la_99 hn) rf12_45 dX12_passes_233 ?_
      refine lv_bipush (v := (6 : Int32)) hx hb dX12_passes_236 (by decide) ?_
      refine lv_iload_n hx hb dX12_passes_238 rfl (lv_at hl 1 rfl) ?_
      refine lv_imul hx hb dX12_passes_239 ?_
      refine lv_iload_n hx hb dX12_passes_240 rfl (lv_at hl 3 rfl) ?_
      refine lv_iadd hx hb dX12_passes_241 ?_
      obtain ⟨g4, hm⟩ := g_no hm
      refine aI X hI (la_129 hn) g4 dX12_passes_242 ?_
      refine lv_iconst (v := (-1 : Int32)) hx hb dX12_passes_243 (by decide) ?_
      refine lv_icmp_eq (tgt := 254) hx hb dX12_passes_244 (by decide) (fun c5 => ?_) (fun c5 => ?_)
      · have hm := g_t c5 hm
        refine lv_iinc (v := (x3 + (1 : Int32))) (lv' := [(3, .int (x3 + (1 : Int32))), (0, .ref (ad 99)), (1, .int x1), (2, .int x2)]) hx hb dX12_passes_254 hl (k := 3) rfl rfl (by decide) rfl (fun ls hl => ?_)
        refine lv_goto (tgt := 222) hx hb dX12_passes_257 (by decide) ?_
        exact ih x1 x2 (x3 + (1 : Int32)) m H locs ls hI (lv_sub hl [1, 2, 3, 0] rfl) hm
      · have hm := g_f c5 hm
        refine lv_aload_n hx hb dX12_passes_247 rfl (lv_at hl 0 rfl) ?_
        refine lv_iload_n hx hb dX12_passes_248 rfl (lv_at hl 1 rfl) ?_
        refine lv_iload_n hx hb dX12_passes_249 rfl (lv_at hl 3 rfl) ?_
        refine lv_iload_n hx hb dX12_passes_250 rfl (lv_at hl 2 rfl) ?_
        obtain ⟨q6, h7, hm⟩ := g_b hm
        refine backV X hI (runV X hI (ctX12_bears N x1 x3 x2  hn _ _ h7 _) mdX12_405 (la_99 hn) rfl ⟨rfl, rfl⟩ ⟨Nat.le_of_ble_eq_true rfl, Nat.le_of_ble_eq_true rfl⟩ rfl hl.1 rfl (Nat.le_of_ble_eq_true rfl) dX12_passes_251) (fun H locs hI => ?_)
        refine lv_iinc (v := (x3 + (1 : Int32))) (lv' := [(3, .int (x3 + (1 : Int32))), (0, .ref (ad 99)), (1, .int x1), (2, .int x2)]) hx hb dX12_passes_254 hl (k := 3) rfl rfl (by decide) rfl (fun ls hl => ?_)
        refine lv_goto (tgt := 222) hx hb dX12_passes_257 (by decide) ?_
        exact ih x1 x2 (x3 + (1 : Int32)) q6 H locs ls hI (lv_sub hl [1, 2, 3, 0] rfl) hm
def fX12_passes_220 (N : Nat) (x1 : Int32) (x2 : Int32) (m : Mem) : Option Mem := fX12_passes_222 N N x1 x2 (0 : Int32) m
set_option maxHeartbeats 4000000 in
set_option maxRecDepth 100000 in
theorem tX12_passes_220 (N : Nat) {l : Launch} {D : va_G} {ca : Nat → ClassId} {ad : Nat → Nat} {p : Program} {e : Env} {s : State} {mm : MethodId} {args : Array Value} {below : List Frame} {meth : Method} {c : Code}  (hn : HNr ca) (X : CX p s mm args meth c cX12_passes 4 RX12 D ca ad (WA ca ad s.heap.size)) (hr : meth.sig.returnType = none) (fin : Mem)  : ∀ (x1 : Int32) (x2 : Int32) (m : Mem) (H : Heap) (locs : List Loc) (ls : Array Slot), IW D ca ad (WA ca ad s.heap.size) s m H locs → lv_has ls 4 [(0, .ref (ad 99)), (1, .int x1), (2, .int x2)] → fX12_passes_220 N x1 x2 m = some fin → W p l e rmX12_passes s mm args below meth c H locs 0 0 (MQ below (QV D ca ad s.heap.size fin) args s 0 0 (WA ca ad s.heap.size)) (F0 mm 220 ls []) := by
  have hx := X.1
  have hb := X.2.1
  intro x1 x2 m H locs ls hI hl hm
  have hm : (fX12_passes_222 N N x1 x2 (0 : Int32) m) = some fin := hm
  refine lv_iconst (v := (0 : Int32)) hx hb dX12_passes_220 (by decide) ?_
  refine lv_istore_n (lv' := [(3, .int (0 : Int32)), (0, .ref (ad 99)), (1, .int x1), (2, .int x2)]) hx hb dX12_passes_221 rfl hl (by decide) rfl (fun ls hl => ?_)
  exact tX12_passes_222 N hn X hr fin  N x1 x2 (0 : Int32) m H locs ls hI (lv_sub hl [1, 2, 3, 0] rfl) hm
def fX12_passes_169 (N : Nat) (k120 : Int32 → Int32 → Int32 → Mem → Option Mem) (x1 : Int32) (x2 : Int32) (x3 : Int32) (m : Mem) : Option Mem := if x3 < 0 ∨ 24 ≤ x3.toNatClampNeg then none else ((fX12_whoIn N x1 (m.1 109 x3.toNatClampNeg) m).bind (fun q14 => if q14 = (-1 : Int32) then (if x3 < 0 ∨ 24 ≤ x3.toNatClampNeg then none else (if x3 < 0 ∨ 24 ≤ x3.toNatClampNeg then none else ((fX12_sits x1 (m.1 108 x3.toNatClampNeg) (m.1 109 x3.toNatClampNeg) m).bind (fun q21 => k120 x1 x2 (x3 + (1 : Int32)) q21)))) else (if x1 < 0 ∨ 23 ≤ x1.toNatClampNeg then none else (if x1 < 0 ∨ 23 ≤ x1.toNatClampNeg then none else (k120 x1 x2 (x3 + (1 : Int32)) (mI m 125 x1.toNatClampNeg ((m.1 125 x1.toNatClampNeg) + (1 : Int32))))))))
set_option maxHeartbeats 4000000 in
set_option maxRecDepth 100000 in
theorem tX12_passes_169 (N : Nat) {l : Launch} {D : va_G} {ca : Nat → ClassId} {ad : Nat → Nat} {p : Program} {e : Env} {s : State} {mm : MethodId} {args : Array Value} {below : List Frame} {meth : Method} {c : Code} {k120 : Int32 → Int32 → Int32 → Mem → Option Mem} (hn : HNr ca) (X : CX p s mm args meth c cX12_passes 4 RX12 D ca ad (WA ca ad s.heap.size)) (hr : meth.sig.returnType = none) (fin : Mem) (hk120 : ∀ (x1 : Int32) (x2 : Int32) (x3 : Int32) (m : Mem) (H : Heap) (locs : List Loc) (ls : Array Slot), IW D ca ad (WA ca ad s.heap.size) s m H locs → lv_has ls 4 [(0, .ref (ad 99)), (1, .int x1), (2, .int x2), (3, .int x3)] → k120 x1 x2 x3 m = some fin → W p l e rmX12_passes s mm args below meth c H locs 0 0 (MQ below (QV D ca ad s.heap.size fin) args s 0 0 (WA ca ad s.heap.size)) (F0 mm 120 ls [])) : ∀ (x1 : Int32) (x2 : Int32) (x3 : Int32) (m : Mem) (H : Heap) (locs : List Loc) (ls : Array Slot), IW D ca ad (WA ca ad s.heap.size) s m H locs → lv_has ls 4 [(0, .ref (ad 99)), (1, .int x1), (2, .int x2), (3, .int x3)] → fX12_passes_169 N k120 x1 x2 x3 m = some fin → W p l e rmX12_passes s mm args below meth c H locs 0 0 (MQ below (QV D ca ad s.heap.size fin) args s 0 0 (WA ca ad s.heap.size)) (F0 mm 169 ls []) := by
  have hx := X.1
  have hb := X.2.1
  intro x1 x2 x3 m H locs ls hI hl hm
  have hm : (if x3 < 0 ∨ 24 ≤ x3.toNatClampNeg then none else ((fX12_whoIn N x1 (m.1 109 x3.toNatClampNeg) m).bind (fun q14 => if q14 = (-1 : Int32) then (if x3 < 0 ∨ 24 ≤ x3.toNatClampNeg then none else (if x3 < 0 ∨ 24 ≤ x3.toNatClampNeg then none else ((fX12_sits x1 (m.1 108 x3.toNatClampNeg) (m.1 109 x3.toNatClampNeg) m).bind (fun q21 => k120 x1 x2 (x3 + (1 : Int32)) q21)))) else (if x1 < 0 ∨ 23 ≤ x1.toNatClampNeg then none else (if x1 < 0 ∨ 23 ≤ x1.toNatClampNeg then none else (k120 x1 x2 (x3 + (1 : Int32)) (mI m 125 x1.toNatClampNeg ((m.1 125 x1.toNatClampNeg) + (1 : Int32))))))))) = some fin := hm
  refine lv_aload_n hx hb dX12_passes_169 rfl (lv_at hl 0 rfl) ?_
  refine lv_iload_n hx hb dX12_passes_170 rfl (lv_at hl 1 rfl) ?_
  refine lv_aload_n hx hb dX12_passes_171 rfl (lv_at hl 0 rfl) ?_
  refine gR X hI fdX12_37 (la_99 hn) rf12_11 dX12_passes_172 ?_
  refine lv_iload_n hx hb dX12_passes_175 rfl (lv_at hl 3 rfl) ?_
  obtain ⟨g13, hm⟩ := g_no hm
  refine aI X hI (la_109 hn) g13 dX12_passes_176 ?_
  obtain ⟨q14, h15, hm⟩ := g_b hm
  refine backI X hI (runV X hI (ctX12_whoIn N x1 (m.1 109 x3.toNatClampNeg)  hn _ _ h15 _) mdX12_398 (la_99 hn) rfl ⟨rfl, rfl⟩ ⟨Nat.le_of_ble_eq_true rfl, Nat.le_of_ble_eq_true rfl⟩ rfl hl.1 rfl (Nat.le_of_ble_eq_true rfl) dX12_passes_177) (fun H locs hI => ?_)
  refine lv_iconst (v := (-1 : Int32)) hx hb dX12_passes_180 (by decide) ?_
  refine lv_icmp_ne (tgt := 204) hx hb dX12_passes_181 (by decide) (fun c16 => ?_) (fun c16 => ?_)
  · have hm := g_f c16 hm
    refine lv_aload_n hx hb dX12_passes_204 rfl (lv_at hl 0 rfl) ?_
    refine gR X hI fdX12_90 (la_99 hn) rf12_41 dX12_passes_205 ?_
    refine lv_iload_n hx hb dX12_passes_208 rfl (lv_at hl 1 rfl) ?_
    refine lv_dup2_11 hx hb dX12_passes_209 rfl rfl ?_
    obtain ⟨g17, hm⟩ := g_no hm
    refine aI X hI (la_125 hn) g17 dX12_passes_210 ?_
    refine lv_iconst (v := (1 : Int32)) hx hb dX12_passes_211 (by decide) ?_
    refine lv_iadd hx hb dX12_passes_212 ?_
    obtain ⟨g18, hm⟩ := g_no hm
    refine sI X hI (la_125 hn) g18 dX12_passes_213 (fun H locs hI => ?_)
    refine lv_iinc (v := (x3 + (1 : Int32))) (lv' := [(3, .int (x3 + (1 : Int32))), (0, .ref (ad 99)), (1, .int x1), (2, .int x2)]) hx hb dX12_passes_214 hl (k := 3) rfl rfl (by decide) rfl (fun ls hl => ?_)
    refine lv_goto (tgt := 120) hx hb dX12_passes_217 (by decide) ?_
    exact hk120 x1 x2 (x3 + (1 : Int32)) (mI m 125 x1.toNatClampNeg ((m.1 125 x1.toNatClampNeg) + (1 : Int32))) H locs ls hI (lv_sub hl [1, 2, 3, 0] rfl) hm
  · have hm := g_t c16 hm
    refine lv_aload_n hx hb dX12_passes_184 rfl (lv_at hl 0 rfl) ?_
    refine lv_iload_n hx hb dX12_passes_185 rfl (lv_at hl 1 rfl) ?_
    refine lv_aload_n hx hb dX12_passes_186 rfl (lv_at hl 0 rfl) ?_
    refine gR X hI fdX12_34 (la_99 hn) rf12_10 dX12_passes_187 ?_
    refine lv_iload_n hx hb dX12_passes_190 rfl (lv_at hl 3 rfl) ?_
    obtain ⟨g19, hm⟩ := g_no hm
    refine aI X hI (la_108 hn) g19 dX12_passes_191 ?_
    refine lv_aload_n hx hb dX12_passes_192 rfl (lv_at hl 0 rfl) ?_
    refine gR X hI fdX12_37 (la_99 hn) rf12_11 dX12_passes_193 ?_
    refine lv_iload_n hx hb dX12_passes_196 rfl (lv_at hl 3 rfl) ?_
    obtain ⟨g20, hm⟩ := g_no hm
    refine aI X hI (la_109 hn) g20 dX12_passes_197 ?_
    obtain ⟨q21, h22, hm⟩ := g_b hm
    refine backV X hI (runV X hI (ctX12_sits x1 (m.1 108 x3.toNatClampNeg) (m.1 109 x3.toNatClampNeg)  hn _ _ h22 _) mdX12_401 (la_99 hn) rfl ⟨rfl, rfl⟩ ⟨Nat.le_of_ble_eq_true rfl, Nat.le_of_ble_eq_true rfl⟩ rfl hl.1 rfl (Nat.le_of_ble_eq_true rfl) dX12_passes_198) (fun H locs hI => ?_)
    refine lv_goto (tgt := 214) hx hb dX12_passes_201 (by decide) ?_
    refine lv_iinc (v := (x3 + (1 : Int32))) (lv' := [(3, .int (x3 + (1 : Int32))), (0, .ref (ad 99)), (1, .int x1), (2, .int x2)]) hx hb dX12_passes_214 hl (k := 3) rfl rfl (by decide) rfl (fun ls hl => ?_)
    refine lv_goto (tgt := 120) hx hb dX12_passes_217 (by decide) ?_
    exact hk120 x1 x2 (x3 + (1 : Int32)) q21 H locs ls hI (lv_sub hl [1, 2, 3, 0] rfl) hm
def fX12_passes_120 (N : Nat) (k220 : Int32 → Int32 → Mem → Option Mem) : Nat → Int32 → Int32 → Int32 → Mem → Option Mem
  | 0, _, _, _, _ => none
  | n + 1, x1, x2, x3, m => if (m.1 101 2) ≤ x3 then (k220 x1 x2 m) else (if x3 < 0 ∨ 24 ≤ x3.toNatClampNeg then none else (if x1 < 0 ∨ 23 ≤ x1.toNatClampNeg then none else (if (m.1 110 x3.toNatClampNeg) = (m.1 123 x1.toNatClampNeg) then (if (m.1 99 52) = (2 : Int32) then (if x3 < 0 ∨ 24 ≤ x3.toNatClampNeg then none else (if (m.1 108 x3.toNatClampNeg) = (m.1 99 53) then (fX12_passes_120 N k220 n x1 x2 (x3 + (1 : Int32)) m) else (fX12_passes_169 N (fun x1 x2 x3 m => fX12_passes_120 N k220 n x1 x2 x3 m) x1 x2 x3 m))) else (fX12_passes_169 N (fun x1 x2 x3 m => fX12_passes_120 N k220 n x1 x2 x3 m) x1 x2 x3 m)) else (fX12_passes_120 N k220 n x1 x2 (x3 + (1 : Int32)) m))))
set_option maxHeartbeats 4000000 in
set_option maxRecDepth 100000 in
theorem tX12_passes_120 (N : Nat) {l : Launch} {D : va_G} {ca : Nat → ClassId} {ad : Nat → Nat} {p : Program} {e : Env} {s : State} {mm : MethodId} {args : Array Value} {below : List Frame} {meth : Method} {c : Code} {k220 : Int32 → Int32 → Mem → Option Mem} (hn : HNr ca) (X : CX p s mm args meth c cX12_passes 4 RX12 D ca ad (WA ca ad s.heap.size)) (hr : meth.sig.returnType = none) (fin : Mem) (hk220 : ∀ (x1 : Int32) (x2 : Int32) (m : Mem) (H : Heap) (locs : List Loc) (ls : Array Slot), IW D ca ad (WA ca ad s.heap.size) s m H locs → lv_has ls 4 [(0, .ref (ad 99)), (1, .int x1), (2, .int x2)] → k220 x1 x2 m = some fin → W p l e rmX12_passes s mm args below meth c H locs 0 0 (MQ below (QV D ca ad s.heap.size fin) args s 0 0 (WA ca ad s.heap.size)) (F0 mm 220 ls [])) : ∀ (n : Nat) (x1 : Int32) (x2 : Int32) (x3 : Int32) (m : Mem) (H : Heap) (locs : List Loc) (ls : Array Slot), IW D ca ad (WA ca ad s.heap.size) s m H locs → lv_has ls 4 [(0, .ref (ad 99)), (1, .int x1), (2, .int x2), (3, .int x3)] → fX12_passes_120 N k220 n x1 x2 x3 m = some fin → W p l e rmX12_passes s mm args below meth c H locs 0 0 (MQ below (QV D ca ad s.heap.size fin) args s 0 0 (WA ca ad s.heap.size)) (F0 mm 120 ls []) := by
  have hx := X.1
  have hb := X.2.1
  intro n
  induction n with
  | zero => intro x1 x2 x3 m H locs ls hI hl hm
            exact absurd hm (by intro q; cases q)
  | succ n ih =>
    intro x1 x2 x3 m H locs ls hI hl hm
    have hm : (if (m.1 101 2) ≤ x3 then (k220 x1 x2 m) else (if x3 < 0 ∨ 24 ≤ x3.toNatClampNeg then none else (if x1 < 0 ∨ 23 ≤ x1.toNatClampNeg then none else (if (m.1 110 x3.toNatClampNeg) = (m.1 123 x1.toNatClampNeg) then (if (m.1 99 52) = (2 : Int32) then (if x3 < 0 ∨ 24 ≤ x3.toNatClampNeg then none else (if (m.1 108 x3.toNatClampNeg) = (m.1 99 53) then (fX12_passes_120 N k220 n x1 x2 (x3 + (1 : Int32)) m) else (fX12_passes_169 N (fun x1 x2 x3 m => fX12_passes_120 N k220 n x1 x2 x3 m) x1 x2 x3 m))) else (fX12_passes_169 N (fun x1 x2 x3 m => fX12_passes_120 N k220 n x1 x2 x3 m) x1 x2 x3 m)) else (fX12_passes_120 N k220 n x1 x2 (x3 + (1 : Int32)) m))))) = some fin := hm
    refine lv_iload_n hx hb dX12_passes_120 rfl (lv_at hl 3 rfl) ?_
    refine lv_aload_n hx hb dX12_passes_121 rfl (lv_at hl 0 rfl) ?_
    refine gR X hI fdX12_13 (la_99 hn) rf12_3 dX12_passes_122 ?_
    refine lv_iconst (v := (2 : Int32)) hx hb dX12_passes_125 (by decide) ?_
    refine aIc (j := 2) X hI (la_101 hn) (by decide) (by decide) dX12_passes_126 ?_
    refine lv_icmp_ge (tgt := 220) hx hb dX12_passes_127 (by decide) (fun c8 => ?_) (fun c8 => ?_)
    · have hm := g_t c8 hm
      exact hk220 x1 x2 m H locs ls hI (lv_sub hl [0, 1, 2] rfl) hm
    · have hm := g_f c8 hm
      refine lv_aload_n hx hb dX12_passes_130 rfl (lv_at hl 0 rfl) ?_
      refine gR X hI fdX12_40 (la_99 hn) rf12_12 dX12_passes_131 ?_
      refine lv_iload_n hx hb dX12_passes_134 rfl (lv_at hl 3 rfl) ?_
      obtain ⟨g9, hm⟩ := g_no hm
      refine aI X hI (la_110 hn) g9 dX12_passes_135 ?_
      refine lv_aload_n hx hb dX12_passes_136 rfl (lv_at hl 0 rfl) ?_
      refine gR X hI fdX12_84 (la_99 hn) rf12_39 dX12_passes_137 ?_
      refine lv_iload_n hx hb dX12_passes_140 rfl (lv_at hl 1 rfl) ?_
      obtain ⟨g10, hm⟩ := g_no hm
      refine aI X hI (la_123 hn) g10 dX12_passes_141 ?_
      refine lv_icmp_ne (tgt := 214) hx hb dX12_passes_142 (by decide) (fun c11 => ?_) (fun c11 => ?_)
      · have hm := g_f c11 hm
        refine lv_iinc (v := (x3 + (1 : Int32))) (lv' := [(3, .int (x3 + (1 : Int32))), (0, .ref (ad 99)), (1, .int x1), (2, .int x2)]) hx hb dX12_passes_214 hl (k := 3) rfl rfl (by decide) rfl (fun ls hl => ?_)
        refine lv_goto (tgt := 120) hx hb dX12_passes_217 (by decide) ?_
        exact ih x1 x2 (x3 + (1 : Int32)) m H locs ls hI (lv_sub hl [1, 2, 3, 0] rfl) hm
      · have hm := g_t c11 hm
        refine lv_aload_n hx hb dX12_passes_145 rfl (lv_at hl 0 rfl) ?_
        refine gI X hI fdX12_375 (la_99 hn) dX12_passes_146 ?_
        refine lv_iconst (v := (2 : Int32)) hx hb dX12_passes_149 (by decide) ?_
        refine lv_icmp_ne (tgt := 169) hx hb dX12_passes_150 (by decide) (fun c12 => ?_) (fun c12 => ?_)
        · have hm := g_f c12 hm
          exact tX12_passes_169 N hn X hr fin ih x1 x2 x3 m H locs ls hI (lv_sub hl [0, 1, 2, 3] rfl) hm
        · have hm := g_t c12 hm
          refine lv_aload_n hx hb dX12_passes_153 rfl (lv_at hl 0 rfl) ?_
          refine gR X hI fdX12_34 (la_99 hn) rf12_10 dX12_passes_154 ?_
          refine lv_iload_n hx hb dX12_passes_157 rfl (lv_at hl 3 rfl) ?_
          obtain ⟨g23, hm⟩ := g_no hm
          refine aI X hI (la_108 hn) g23 dX12_passes_158 ?_
          refine lv_aload_n hx hb dX12_passes_159 rfl (lv_at hl 0 rfl) ?_
          refine gI X hI fdX12_117 (la_99 hn) dX12_passes_160 ?_
          refine lv_icmp_ne (tgt := 169) hx hb dX12_passes_163 (by decide) (fun c24 => ?_) (fun c24 => ?_)
          · have hm := g_f c24 hm
            exact tX12_passes_169 N hn X hr fin ih x1 x2 x3 m H locs ls hI (lv_sub hl [0, 1, 2, 3] rfl) hm
          · have hm := g_t c24 hm
            refine lv_goto (tgt := 214) hx hb dX12_passes_166 (by decide) ?_
            refine lv_iinc (v := (x3 + (1 : Int32))) (lv' := [(3, .int (x3 + (1 : Int32))), (0, .ref (ad 99)), (1, .int x1), (2, .int x2)]) hx hb dX12_passes_214 hl (k := 3) rfl rfl (by decide) rfl (fun ls hl => ?_)
            refine lv_goto (tgt := 120) hx hb dX12_passes_217 (by decide) ?_
            exact ih x1 x2 (x3 + (1 : Int32)) m H locs ls hI (lv_sub hl [1, 2, 3, 0] rfl) hm
def fX12_passes_118 (N : Nat) (x1 : Int32) (x2 : Int32) (m : Mem) : Option Mem := fX12_passes_120 N (fX12_passes_220 N) N x1 x2 (0 : Int32) m
set_option maxHeartbeats 4000000 in
set_option maxRecDepth 100000 in
theorem tX12_passes_118 (N : Nat) {l : Launch} {D : va_G} {ca : Nat → ClassId} {ad : Nat → Nat} {p : Program} {e : Env} {s : State} {mm : MethodId} {args : Array Value} {below : List Frame} {meth : Method} {c : Code}  (hn : HNr ca) (X : CX p s mm args meth c cX12_passes 4 RX12 D ca ad (WA ca ad s.heap.size)) (hr : meth.sig.returnType = none) (fin : Mem)  : ∀ (x1 : Int32) (x2 : Int32) (m : Mem) (H : Heap) (locs : List Loc) (ls : Array Slot), IW D ca ad (WA ca ad s.heap.size) s m H locs → lv_has ls 4 [(0, .ref (ad 99)), (1, .int x1), (2, .int x2)] → fX12_passes_118 N x1 x2 m = some fin → W p l e rmX12_passes s mm args below meth c H locs 0 0 (MQ below (QV D ca ad s.heap.size fin) args s 0 0 (WA ca ad s.heap.size)) (F0 mm 118 ls []) := by
  have hx := X.1
  have hb := X.2.1
  intro x1 x2 m H locs ls hI hl hm
  have hm : (fX12_passes_120 N (fX12_passes_220 N) N x1 x2 (0 : Int32) m) = some fin := hm
  refine lv_iconst (v := (0 : Int32)) hx hb dX12_passes_118 (by decide) ?_
  refine lv_istore_n (lv' := [(3, .int (0 : Int32)), (0, .ref (ad 99)), (1, .int x1), (2, .int x2)]) hx hb dX12_passes_119 rfl hl (by decide) rfl (fun ls hl => ?_)
  exact tX12_passes_120 N hn X hr fin (tX12_passes_220 N hn X hr fin ) N x1 x2 (0 : Int32) m H locs ls hI (lv_sub hl [1, 2, 3, 0] rfl) hm
def fX12_passes_88 (N : Nat) (k118 : Int32 → Int32 → Mem → Option Mem) : Nat → Int32 → Int32 → Int32 → Mem → Option Mem
  | 0, _, _, _, _ => none
  | n + 1, x1, x2, x3, m => if (m.1 101 1) ≤ x3 then (k118 x1 x2 m) else (if (m.1 99 52) = (4 : Int32) then (fX12_passes_88 N k118 n x1 x2 (x3 + (1 : Int32)) m) else ((fX12_loses N x1 x3 m).bind (fun q27 => fX12_passes_88 N k118 n x1 x2 (x3 + (1 : Int32)) q27)))
set_option maxHeartbeats 4000000 in
set_option maxRecDepth 100000 in
theorem tX12_passes_88 (N : Nat) {l : Launch} {D : va_G} {ca : Nat → ClassId} {ad : Nat → Nat} {p : Program} {e : Env} {s : State} {mm : MethodId} {args : Array Value} {below : List Frame} {meth : Method} {c : Code} {k118 : Int32 → Int32 → Mem → Option Mem} (hn : HNr ca) (X : CX p s mm args meth c cX12_passes 4 RX12 D ca ad (WA ca ad s.heap.size)) (hr : meth.sig.returnType = none) (fin : Mem) (hk118 : ∀ (x1 : Int32) (x2 : Int32) (m : Mem) (H : Heap) (locs : List Loc) (ls : Array Slot), IW D ca ad (WA ca ad s.heap.size) s m H locs → lv_has ls 4 [(0, .ref (ad 99)), (1, .int x1), (2, .int x2)] → k118 x1 x2 m = some fin → W p l e rmX12_passes s mm args below meth c H locs 0 0 (MQ below (QV D ca ad s.heap.size fin) args s 0 0 (WA ca ad s.heap.size)) (F0 mm 118 ls [])) : ∀ (n : Nat) (x1 : Int32) (x2 : Int32) (x3 : Int32) (m : Mem) (H : Heap) (locs : List Loc) (ls : Array Slot), IW D ca ad (WA ca ad s.heap.size) s m H locs → lv_has ls 4 [(0, .ref (ad 99)), (1, .int x1), (2, .int x2), (3, .int x3)] → fX12_passes_88 N k118 n x1 x2 x3 m = some fin → W p l e rmX12_passes s mm args below meth c H locs 0 0 (MQ below (QV D ca ad s.heap.size fin) args s 0 0 (WA ca ad s.heap.size)) (F0 mm 88 ls []) := by
  have hx := X.1
  have hb := X.2.1
  intro n
  induction n with
  | zero => intro x1 x2 x3 m H locs ls hI hl hm
            exact absurd hm (by intro q; cases q)
  | succ n ih =>
    intro x1 x2 x3 m H locs ls hI hl hm
    have hm : (if (m.1 101 1) ≤ x3 then (k118 x1 x2 m) else (if (m.1 99 52) = (4 : Int32) then (fX12_passes_88 N k118 n x1 x2 (x3 + (1 : Int32)) m) else ((fX12_loses N x1 x3 m).bind (fun q27 => fX12_passes_88 N k118 n x1 x2 (x3 + (1 : Int32)) q27)))) = some fin := hm
    refine lv_iload_n hx hb dX12_passes_88 rfl (lv_at hl 3 rfl) ?_
    refine lv_aload_n hx hb dX12_passes_89 rfl (lv_at hl 0 rfl) ?_
    refine gR X hI fdX12_13 (la_99 hn) rf12_3 dX12_passes_90 ?_
    refine lv_iconst (v := (1 : Int32)) hx hb dX12_passes_93 (by decide) ?_
    refine aIc (j := 1) X hI (la_101 hn) (by decide) (by decide) dX12_passes_94 ?_
    refine lv_icmp_ge (tgt := 118) hx hb dX12_passes_95 (by decide) (fun c25 => ?_) (fun c25 => ?_)
    · have hm := g_t c25 hm
      exact hk118 x1 x2 m H locs ls hI (lv_sub hl [0, 1, 2] rfl) hm
    · have hm := g_f c25 hm
      refine lv_aload_n hx hb dX12_passes_98 rfl (lv_at hl 0 rfl) ?_
      refine gI X hI fdX12_375 (la_99 hn) dX12_passes_99 ?_
      refine lv_iconst (v := (4 : Int32)) hx hb dX12_passes_102 (by decide) ?_
      refine lv_icmp_eq (tgt := 112) hx hb dX12_passes_103 (by decide) (fun c26 => ?_) (fun c26 => ?_)
      · have hm := g_t c26 hm
        refine lv_iinc (v := (x3 + (1 : Int32))) (lv' := [(3, .int (x3 + (1 : Int32))), (0, .ref (ad 99)), (1, .int x1), (2, .int x2)]) hx hb dX12_passes_112 hl (k := 3) rfl rfl (by decide) rfl (fun ls hl => ?_)
        refine lv_goto (tgt := 88) hx hb dX12_passes_115 (by decide) ?_
        exact ih x1 x2 (x3 + (1 : Int32)) m H locs ls hI (lv_sub hl [1, 2, 3, 0] rfl) hm
      · have hm := g_f c26 hm
        refine lv_aload_n hx hb dX12_passes_106 rfl (lv_at hl 0 rfl) ?_
        refine lv_iload_n hx hb dX12_passes_107 rfl (lv_at hl 1 rfl) ?_
        refine lv_iload_n hx hb dX12_passes_108 rfl (lv_at hl 3 rfl) ?_
        obtain ⟨q27, h28, hm⟩ := g_b hm
        refine backV X hI (runV X hI (ctX12_loses N x1 x3  hn _ _ h28 _) mdX12_395 (la_99 hn) rfl ⟨rfl, rfl⟩ ⟨Nat.le_of_ble_eq_true rfl, Nat.le_of_ble_eq_true rfl⟩ rfl hl.1 rfl (Nat.le_of_ble_eq_true rfl) dX12_passes_109) (fun H locs hI => ?_)
        refine lv_iinc (v := (x3 + (1 : Int32))) (lv' := [(3, .int (x3 + (1 : Int32))), (0, .ref (ad 99)), (1, .int x1), (2, .int x2)]) hx hb dX12_passes_112 hl (k := 3) rfl rfl (by decide) rfl (fun ls hl => ?_)
        refine lv_goto (tgt := 88) hx hb dX12_passes_115 (by decide) ?_
        exact ih x1 x2 (x3 + (1 : Int32)) q27 H locs ls hI (lv_sub hl [1, 2, 3, 0] rfl) hm
def fX12_passes_86 (N : Nat) (x1 : Int32) (x2 : Int32) (m : Mem) : Option Mem := fX12_passes_88 N (fX12_passes_118 N) N x1 x2 (0 : Int32) m
set_option maxHeartbeats 4000000 in
set_option maxRecDepth 100000 in
theorem tX12_passes_86 (N : Nat) {l : Launch} {D : va_G} {ca : Nat → ClassId} {ad : Nat → Nat} {p : Program} {e : Env} {s : State} {mm : MethodId} {args : Array Value} {below : List Frame} {meth : Method} {c : Code}  (hn : HNr ca) (X : CX p s mm args meth c cX12_passes 4 RX12 D ca ad (WA ca ad s.heap.size)) (hr : meth.sig.returnType = none) (fin : Mem)  : ∀ (x1 : Int32) (x2 : Int32) (m : Mem) (H : Heap) (locs : List Loc) (ls : Array Slot), IW D ca ad (WA ca ad s.heap.size) s m H locs → lv_has ls 4 [(0, .ref (ad 99)), (1, .int x1), (2, .int x2)] → fX12_passes_86 N x1 x2 m = some fin → W p l e rmX12_passes s mm args below meth c H locs 0 0 (MQ below (QV D ca ad s.heap.size fin) args s 0 0 (WA ca ad s.heap.size)) (F0 mm 86 ls []) := by
  have hx := X.1
  have hb := X.2.1
  intro x1 x2 m H locs ls hI hl hm
  have hm : (fX12_passes_88 N (fX12_passes_118 N) N x1 x2 (0 : Int32) m) = some fin := hm
  refine lv_iconst (v := (0 : Int32)) hx hb dX12_passes_86 (by decide) ?_
  refine lv_istore_n (lv' := [(3, .int (0 : Int32)), (0, .ref (ad 99)), (1, .int x1), (2, .int x2)]) hx hb dX12_passes_87 rfl hl (by decide) rfl (fun ls hl => ?_)
  exact tX12_passes_88 N hn X hr fin (tX12_passes_118 N hn X hr fin ) N x1 x2 (0 : Int32) m H locs ls hI (lv_sub hl [1, 2, 3, 0] rfl) hm
def fX12_passes_64 (N : Nat) (k86 : Int32 → Int32 → Mem → Option Mem) : Nat → Int32 → Int32 → Int32 → Mem → Option Mem
  | 0, _, _, _, _ => none
  | n + 1, x1, x2, x3, m => if (m.1 101 4) ≤ x3 then (k86 x1 x2 m) else ((fX12_flows x1 x3 m).bind (fun q30 => fX12_passes_64 N k86 n x1 x2 (x3 + (1 : Int32)) q30))
set_option maxHeartbeats 4000000 in
set_option maxRecDepth 100000 in
theorem tX12_passes_64 (N : Nat) {l : Launch} {D : va_G} {ca : Nat → ClassId} {ad : Nat → Nat} {p : Program} {e : Env} {s : State} {mm : MethodId} {args : Array Value} {below : List Frame} {meth : Method} {c : Code} {k86 : Int32 → Int32 → Mem → Option Mem} (hn : HNr ca) (X : CX p s mm args meth c cX12_passes 4 RX12 D ca ad (WA ca ad s.heap.size)) (hr : meth.sig.returnType = none) (fin : Mem) (hk86 : ∀ (x1 : Int32) (x2 : Int32) (m : Mem) (H : Heap) (locs : List Loc) (ls : Array Slot), IW D ca ad (WA ca ad s.heap.size) s m H locs → lv_has ls 4 [(0, .ref (ad 99)), (1, .int x1), (2, .int x2)] → k86 x1 x2 m = some fin → W p l e rmX12_passes s mm args below meth c H locs 0 0 (MQ below (QV D ca ad s.heap.size fin) args s 0 0 (WA ca ad s.heap.size)) (F0 mm 86 ls [])) : ∀ (n : Nat) (x1 : Int32) (x2 : Int32) (x3 : Int32) (m : Mem) (H : Heap) (locs : List Loc) (ls : Array Slot), IW D ca ad (WA ca ad s.heap.size) s m H locs → lv_has ls 4 [(0, .ref (ad 99)), (1, .int x1), (2, .int x2), (3, .int x3)] → fX12_passes_64 N k86 n x1 x2 x3 m = some fin → W p l e rmX12_passes s mm args below meth c H locs 0 0 (MQ below (QV D ca ad s.heap.size fin) args s 0 0 (WA ca ad s.heap.size)) (F0 mm 64 ls []) := by
  have hx := X.1
  have hb := X.2.1
  intro n
  induction n with
  | zero => intro x1 x2 x3 m H locs ls hI hl hm
            exact absurd hm (by intro q; cases q)
  | succ n ih =>
    intro x1 x2 x3 m H locs ls hI hl hm
    have hm : (if (m.1 101 4) ≤ x3 then (k86 x1 x2 m) else ((fX12_flows x1 x3 m).bind (fun q30 => fX12_passes_64 N k86 n x1 x2 (x3 + (1 : Int32)) q30))) = some fin := hm
    refine lv_iload_n hx hb dX12_passes_64 rfl (lv_at hl 3 rfl) ?_
    refine lv_aload_n hx hb dX12_passes_65 rfl (lv_at hl 0 rfl) ?_
    refine gR X hI fdX12_13 (la_99 hn) rf12_3 dX12_passes_66 ?_
    refine lv_iconst (v := (4 : Int32)) hx hb dX12_passes_69 (by decide) ?_
    refine aIc (j := 4) X hI (la_101 hn) (by decide) (by decide) dX12_passes_70 ?_
    refine lv_icmp_ge (tgt := 86) hx hb dX12_passes_71 (by decide) (fun c29 => ?_) (fun c29 => ?_)
    · have hm := g_t c29 hm
      exact hk86 x1 x2 m H locs ls hI (lv_sub hl [0, 1, 2] rfl) hm
    · have hm := g_f c29 hm
      refine lv_aload_n hx hb dX12_passes_74 rfl (lv_at hl 0 rfl) ?_
      refine lv_iload_n hx hb dX12_passes_75 rfl (lv_at hl 1 rfl) ?_
      refine lv_iload_n hx hb dX12_passes_76 rfl (lv_at hl 3 rfl) ?_
      obtain ⟨q30, h31, hm⟩ := g_b hm
      refine backV X hI (runV X hI (ctX12_flows x1 x3  hn _ _ h31 _) mdX12_392 (la_99 hn) rfl ⟨rfl, rfl⟩ ⟨Nat.le_of_ble_eq_true rfl, Nat.le_of_ble_eq_true rfl⟩ rfl hl.1 rfl (Nat.le_of_ble_eq_true rfl) dX12_passes_77) (fun H locs hI => ?_)
      refine lv_iinc (v := (x3 + (1 : Int32))) (lv' := [(3, .int (x3 + (1 : Int32))), (0, .ref (ad 99)), (1, .int x1), (2, .int x2)]) hx hb dX12_passes_80 hl (k := 3) rfl rfl (by decide) rfl (fun ls hl => ?_)
      refine lv_goto (tgt := 64) hx hb dX12_passes_83 (by decide) ?_
      exact ih x1 x2 (x3 + (1 : Int32)) q30 H locs ls hI (lv_sub hl [1, 2, 3, 0] rfl) hm
def fX12_passes_62 (N : Nat) (x1 : Int32) (x2 : Int32) (m : Mem) : Option Mem := fX12_passes_64 N (fX12_passes_86 N) N x1 x2 (0 : Int32) m
set_option maxHeartbeats 4000000 in
set_option maxRecDepth 100000 in
theorem tX12_passes_62 (N : Nat) {l : Launch} {D : va_G} {ca : Nat → ClassId} {ad : Nat → Nat} {p : Program} {e : Env} {s : State} {mm : MethodId} {args : Array Value} {below : List Frame} {meth : Method} {c : Code}  (hn : HNr ca) (X : CX p s mm args meth c cX12_passes 4 RX12 D ca ad (WA ca ad s.heap.size)) (hr : meth.sig.returnType = none) (fin : Mem)  : ∀ (x1 : Int32) (x2 : Int32) (m : Mem) (H : Heap) (locs : List Loc) (ls : Array Slot), IW D ca ad (WA ca ad s.heap.size) s m H locs → lv_has ls 4 [(0, .ref (ad 99)), (1, .int x1), (2, .int x2)] → fX12_passes_62 N x1 x2 m = some fin → W p l e rmX12_passes s mm args below meth c H locs 0 0 (MQ below (QV D ca ad s.heap.size fin) args s 0 0 (WA ca ad s.heap.size)) (F0 mm 62 ls []) := by
  have hx := X.1
  have hb := X.2.1
  intro x1 x2 m H locs ls hI hl hm
  have hm : (fX12_passes_64 N (fX12_passes_86 N) N x1 x2 (0 : Int32) m) = some fin := hm
  refine lv_iconst (v := (0 : Int32)) hx hb dX12_passes_62 (by decide) ?_
  refine lv_istore_n (lv' := [(3, .int (0 : Int32)), (0, .ref (ad 99)), (1, .int x1), (2, .int x2)]) hx hb dX12_passes_63 rfl hl (by decide) rfl (fun ls hl => ?_)
  exact tX12_passes_64 N hn X hr fin (tX12_passes_86 N hn X hr fin ) N x1 x2 (0 : Int32) m H locs ls hI (lv_sub hl [1, 2, 3, 0] rfl) hm
def fX12_passes_2 (N : Nat) (k62 : Int32 → Int32 → Mem → Option Mem) : Nat → Int32 → Int32 → Int32 → Mem → Option Mem
  | 0, _, _, _, _ => none
  | n + 1, x1, x2, x3, m => if (m.1 101 3) ≤ x3 then (k62 x1 x2 m) else (if (m.1 99 52) = (3 : Int32) then (k62 x1 x2 m) else (if x3 < 0 ∨ 20 ≤ x3.toNatClampNeg then none else (if x1 < 0 ∨ 23 ≤ x1.toNatClampNeg then none else (if (m.1 113 x3.toNatClampNeg) = (m.1 123 x1.toNatClampNeg) then (if x3 < 0 ∨ 20 ≤ x3.toNatClampNeg then none else (if x3 < 0 ∨ 20 ≤ x3.toNatClampNeg then none else ((fX12_mixes x1 (m.1 111 x3.toNatClampNeg) (m.1 112 x3.toNatClampNeg) (990 : Int32) m).bind (fun q39 => fX12_passes_2 N k62 n x1 x2 (x3 + (1 : Int32)) q39.2)))) else (fX12_passes_2 N k62 n x1 x2 (x3 + (1 : Int32)) m)))))
set_option maxHeartbeats 4000000 in
set_option maxRecDepth 100000 in
theorem tX12_passes_2 (N : Nat) {l : Launch} {D : va_G} {ca : Nat → ClassId} {ad : Nat → Nat} {p : Program} {e : Env} {s : State} {mm : MethodId} {args : Array Value} {below : List Frame} {meth : Method} {c : Code} {k62 : Int32 → Int32 → Mem → Option Mem} (hn : HNr ca) (X : CX p s mm args meth c cX12_passes 4 RX12 D ca ad (WA ca ad s.heap.size)) (hr : meth.sig.returnType = none) (fin : Mem) (hk62 : ∀ (x1 : Int32) (x2 : Int32) (m : Mem) (H : Heap) (locs : List Loc) (ls : Array Slot), IW D ca ad (WA ca ad s.heap.size) s m H locs → lv_has ls 4 [(0, .ref (ad 99)), (1, .int x1), (2, .int x2)] → k62 x1 x2 m = some fin → W p l e rmX12_passes s mm args below meth c H locs 0 0 (MQ below (QV D ca ad s.heap.size fin) args s 0 0 (WA ca ad s.heap.size)) (F0 mm 62 ls [])) : ∀ (n : Nat) (x1 : Int32) (x2 : Int32) (x3 : Int32) (m : Mem) (H : Heap) (locs : List Loc) (ls : Array Slot), IW D ca ad (WA ca ad s.heap.size) s m H locs → lv_has ls 4 [(0, .ref (ad 99)), (1, .int x1), (2, .int x2), (3, .int x3)] → fX12_passes_2 N k62 n x1 x2 x3 m = some fin → W p l e rmX12_passes s mm args below meth c H locs 0 0 (MQ below (QV D ca ad s.heap.size fin) args s 0 0 (WA ca ad s.heap.size)) (F0 mm 2 ls []) := by
  have hx := X.1
  have hb := X.2.1
  intro n
  induction n with
  | zero => intro x1 x2 x3 m H locs ls hI hl hm
            exact absurd hm (by intro q; cases q)
  | succ n ih =>
    intro x1 x2 x3 m H locs ls hI hl hm
    have hm : (if (m.1 101 3) ≤ x3 then (k62 x1 x2 m) else (if (m.1 99 52) = (3 : Int32) then (k62 x1 x2 m) else (if x3 < 0 ∨ 20 ≤ x3.toNatClampNeg then none else (if x1 < 0 ∨ 23 ≤ x1.toNatClampNeg then none else (if (m.1 113 x3.toNatClampNeg) = (m.1 123 x1.toNatClampNeg) then (if x3 < 0 ∨ 20 ≤ x3.toNatClampNeg then none else (if x3 < 0 ∨ 20 ≤ x3.toNatClampNeg then none else ((fX12_mixes x1 (m.1 111 x3.toNatClampNeg) (m.1 112 x3.toNatClampNeg) (990 : Int32) m).bind (fun q39 => fX12_passes_2 N k62 n x1 x2 (x3 + (1 : Int32)) q39.2)))) else (fX12_passes_2 N k62 n x1 x2 (x3 + (1 : Int32)) m)))))) = some fin := hm
    refine lv_iload_n hx hb dX12_passes_2 rfl (lv_at hl 3 rfl) ?_
    refine lv_aload_n hx hb dX12_passes_3 rfl (lv_at hl 0 rfl) ?_
    refine gR X hI fdX12_13 (la_99 hn) rf12_3 dX12_passes_4 ?_
    refine lv_iconst (v := (3 : Int32)) hx hb dX12_passes_7 (by decide) ?_
    refine aIc (j := 3) X hI (la_101 hn) (by decide) (by decide) dX12_passes_8 ?_
    refine lv_icmp_ge (tgt := 62) hx hb dX12_passes_9 (by decide) (fun c32 => ?_) (fun c32 => ?_)
    · have hm := g_t c32 hm
      exact hk62 x1 x2 m H locs ls hI (lv_sub hl [0, 1, 2] rfl) hm
    · have hm := g_f c32 hm
      refine lv_aload_n hx hb dX12_passes_12 rfl (lv_at hl 0 rfl) ?_
      refine gI X hI fdX12_375 (la_99 hn) dX12_passes_13 ?_
      refine lv_iconst (v := (3 : Int32)) hx hb dX12_passes_16 (by decide) ?_
      refine lv_icmp_eq (tgt := 62) hx hb dX12_passes_17 (by decide) (fun c33 => ?_) (fun c33 => ?_)
      · have hm := g_t c33 hm
        exact hk62 x1 x2 m H locs ls hI (lv_sub hl [0, 1, 2] rfl) hm
      · have hm := g_f c33 hm
        refine lv_aload_n hx hb dX12_passes_20 rfl (lv_at hl 0 rfl) ?_
        refine gR X hI fdX12_49 (la_99 hn) rf12_15 dX12_passes_21 ?_
        refine lv_iload_n hx hb dX12_passes_24 rfl (lv_at hl 3 rfl) ?_
        obtain ⟨g34, hm⟩ := g_no hm
        refine aI X hI (la_113 hn) g34 dX12_passes_25 ?_
        refine lv_aload_n hx hb dX12_passes_26 rfl (lv_at hl 0 rfl) ?_
        refine gR X hI fdX12_84 (la_99 hn) rf12_39 dX12_passes_27 ?_
        refine lv_iload_n hx hb dX12_passes_30 rfl (lv_at hl 1 rfl) ?_
        obtain ⟨g35, hm⟩ := g_no hm
        refine aI X hI (la_123 hn) g35 dX12_passes_31 ?_
        refine lv_icmp_ne (tgt := 56) hx hb dX12_passes_32 (by decide) (fun c36 => ?_) (fun c36 => ?_)
        · have hm := g_f c36 hm
          refine lv_iinc (v := (x3 + (1 : Int32))) (lv' := [(3, .int (x3 + (1 : Int32))), (0, .ref (ad 99)), (1, .int x1), (2, .int x2)]) hx hb dX12_passes_56 hl (k := 3) rfl rfl (by decide) rfl (fun ls hl => ?_)
          refine lv_goto (tgt := 2) hx hb dX12_passes_59 (by decide) ?_
          exact ih x1 x2 (x3 + (1 : Int32)) m H locs ls hI (lv_sub hl [1, 2, 3, 0] rfl) hm
        · have hm := g_t c36 hm
          refine lv_aload_n hx hb dX12_passes_35 rfl (lv_at hl 0 rfl) ?_
          refine lv_iload_n hx hb dX12_passes_36 rfl (lv_at hl 1 rfl) ?_
          refine lv_aload_n hx hb dX12_passes_37 rfl (lv_at hl 0 rfl) ?_
          refine gR X hI fdX12_43 (la_99 hn) rf12_13 dX12_passes_38 ?_
          refine lv_iload_n hx hb dX12_passes_41 rfl (lv_at hl 3 rfl) ?_
          obtain ⟨g37, hm⟩ := g_no hm
          refine aI X hI (la_111 hn) g37 dX12_passes_42 ?_
          refine lv_aload_n hx hb dX12_passes_43 rfl (lv_at hl 0 rfl) ?_
          refine gR X hI fdX12_46 (la_99 hn) rf12_14 dX12_passes_44 ?_
          refine lv_iload_n hx hb dX12_passes_47 rfl (lv_at hl 3 rfl) ?_
          obtain ⟨g38, hm⟩ := g_no hm
          refine aI X hI (la_112 hn) g38 dX12_passes_48 ?_
          refine lv_sipush (v := (990 : Int32)) hx hb dX12_passes_49 (by decide) ?_
          obtain ⟨q39, h40, hm⟩ := g_b hm
          refine backI X hI (runV X hI (ctX12_mixes x1 (m.1 111 x3.toNatClampNeg) (m.1 112 x3.toNatClampNeg) (990 : Int32)  hn _ _ h40 _) mdX12_366 (la_99 hn) rfl ⟨rfl, rfl⟩ ⟨Nat.le_of_ble_eq_true rfl, Nat.le_of_ble_eq_true rfl⟩ rfl hl.1 rfl (Nat.le_of_ble_eq_true rfl) dX12_passes_52) (fun H locs hI => ?_)
          refine lv_pop hx hb dX12_passes_55 rfl ?_
          refine lv_iinc (v := (x3 + (1 : Int32))) (lv' := [(3, .int (x3 + (1 : Int32))), (0, .ref (ad 99)), (1, .int x1), (2, .int x2)]) hx hb dX12_passes_56 hl (k := 3) rfl rfl (by decide) rfl (fun ls hl => ?_)
          refine lv_goto (tgt := 2) hx hb dX12_passes_59 (by decide) ?_
          exact ih x1 x2 (x3 + (1 : Int32)) q39.2 H locs ls hI (lv_sub hl [1, 2, 3, 0] rfl) hm
def fX12_passes (N : Nat) (x1 : Int32) (x2 : Int32) (m : Mem) : Option Mem := fX12_passes_2 N (fX12_passes_62 N) N x1 x2 (0 : Int32) m
set_option maxHeartbeats 4000000 in
set_option maxRecDepth 100000 in
theorem ctX12_passes {l : Launch} {D : va_G} {ca : Nat → ClassId} {ad : Nat → Nat} (N : Nat) (x1 : Int32) (x2 : Int32)  (hn : HNr ca) (m : Mem) (fin : Mem) (hm : fX12_passes N x1 x2 m = some fin) : CV l D ca ad yX12_passes cwX12_passes rmX12_passes [.ref (ad 99), .int x1, .int x2] m fin := by
  refine start (by decide) (Nat.le_of_ble_eq_true rfl) ?_
  intro p e s mm args below meth c H locs ls X hI hr hl
  have X : CX p s mm args meth c cX12_passes 4 RX12 D ca ad (WA ca ad s.heap.size) := X
  have hx := X.1
  have hb := X.2.1
  have hl : lv_has ls 4 [(0, .ref (ad 99)), (1, .int x1), (2, .int x2)] := hl
  have hm : (fX12_passes_2 N (fX12_passes_62 N) N x1 x2 (0 : Int32) m) = some fin := hm
  refine lv_iconst (v := (0 : Int32)) hx hb dX12_passes_0 (by decide) ?_
  refine lv_istore_n (lv' := [(3, .int (0 : Int32)), (0, .ref (ad 99)), (1, .int x1), (2, .int x2)]) hx hb dX12_passes_1 rfl hl (by decide) rfl (fun ls hl => ?_)
  exact tX12_passes_2 N hn X hr fin (tX12_passes_62 N hn X hr fin ) N x1 x2 (0 : Int32) m H locs ls hI (lv_sub hl [1, 2, 3, 0] rfl) hm
abbrev rmX12_goesOn : Room := { frames := 6, cells := 0, slots := 0, locals := 145 }
def fX12_goesOn_2 (N : Nat) : Nat → Int32 → Int32 → Mem → Option Mem
  | 0, _, _, _ => none
  | n + 1, x1, x2, m => if x1 ≤ x2 then (some m) else ((fX12_passes N (1 : Int32) (0 : Int32) m).bind (fun q2 => fX12_goesOn_2 N n x1 (x2 + (1 : Int32)) q2))
set_option maxHeartbeats 4000000 in
set_option maxRecDepth 100000 in
theorem tX12_goesOn_2 (N : Nat) {l : Launch} {D : va_G} {ca : Nat → ClassId} {ad : Nat → Nat} {p : Program} {e : Env} {s : State} {mm : MethodId} {args : Array Value} {below : List Frame} {meth : Method} {c : Code}  (hn : HNr ca) (X : CX p s mm args meth c cX12_goesOn 3 RX12 D ca ad (WA ca ad s.heap.size)) (hr : meth.sig.returnType = none) (fin : Mem)  : ∀ (n : Nat) (x1 : Int32) (x2 : Int32) (m : Mem) (H : Heap) (locs : List Loc) (ls : Array Slot), IW D ca ad (WA ca ad s.heap.size) s m H locs → lv_has ls 3 [(0, .ref (ad 99)), (1, .int x1), (2, .int x2)] → fX12_goesOn_2 N n x1 x2 m = some fin → W p l e rmX12_goesOn s mm args below meth c H locs 0 0 (MQ below (QV D ca ad s.heap.size fin) args s 0 0 (WA ca ad s.heap.size)) (F0 mm 2 ls []) := by
  have hx := X.1
  have hb := X.2.1
  intro n
  induction n with
  | zero => intro x1 x2 m H locs ls hI hl hm
            exact absurd hm (by intro q; cases q)
  | succ n ih =>
    intro x1 x2 m H locs ls hI hl hm
    have hm : (if x1 ≤ x2 then (some m) else ((fX12_passes N (1 : Int32) (0 : Int32) m).bind (fun q2 => fX12_goesOn_2 N n x1 (x2 + (1 : Int32)) q2))) = some fin := hm
    refine lv_iload_n hx hb dX12_goesOn_2 rfl (lv_at hl 2 rfl) ?_
    refine lv_iload_n hx hb dX12_goesOn_3 rfl (lv_at hl 1 rfl) ?_
    refine lv_icmp_ge (tgt := 19) hx hb dX12_goesOn_4 (by decide) (fun c1 => ?_) (fun c1 => ?_)
    · have hm := g_t c1 hm
      exact rV X hI hr (g_1 hm) dX12_goesOn_19
    · have hm := g_f c1 hm
      refine lv_aload_n hx hb dX12_goesOn_7 rfl (lv_at hl 0 rfl) ?_
      refine lv_iconst (v := (1 : Int32)) hx hb dX12_goesOn_8 (by decide) ?_
      refine lv_iconst (v := (0 : Int32)) hx hb dX12_goesOn_9 (by decide) ?_
      obtain ⟨q2, h3, hm⟩ := g_b hm
      refine backV X hI (runV X hI (ctX12_passes N (1 : Int32) (0 : Int32)  hn _ _ h3 _) mdX12_409 (la_99 hn) rfl ⟨rfl, rfl⟩ ⟨Nat.le_of_ble_eq_true rfl, Nat.le_of_ble_eq_true rfl⟩ rfl hl.1 rfl (Nat.le_of_ble_eq_true rfl) dX12_goesOn_10) (fun H locs hI => ?_)
      refine lv_iinc (v := (x2 + (1 : Int32))) (lv' := [(2, .int (x2 + (1 : Int32))), (0, .ref (ad 99)), (1, .int x1)]) hx hb dX12_goesOn_13 hl (k := 2) rfl rfl (by decide) rfl (fun ls hl => ?_)
      refine lv_goto (tgt := 2) hx hb dX12_goesOn_16 (by decide) ?_
      exact ih x1 (x2 + (1 : Int32)) q2 H locs ls hI (lv_sub hl [1, 2, 0] rfl) hm
def fX12_goesOn (N : Nat) (x1 : Int32) (m : Mem) : Option Mem := fX12_goesOn_2 N N x1 (0 : Int32) m
set_option maxHeartbeats 4000000 in
set_option maxRecDepth 100000 in
theorem ctX12_goesOn {l : Launch} {D : va_G} {ca : Nat → ClassId} {ad : Nat → Nat} (N : Nat) (x1 : Int32)  (hn : HNr ca) (m : Mem) (fin : Mem) (hm : fX12_goesOn N x1 m = some fin) : CV l D ca ad yX12_goesOn cwX12_goesOn rmX12_goesOn [.ref (ad 99), .int x1] m fin := by
  refine start (by decide) (Nat.le_of_ble_eq_true rfl) ?_
  intro p e s mm args below meth c H locs ls X hI hr hl
  have X : CX p s mm args meth c cX12_goesOn 3 RX12 D ca ad (WA ca ad s.heap.size) := X
  have hx := X.1
  have hb := X.2.1
  have hl : lv_has ls 3 [(0, .ref (ad 99)), (1, .int x1)] := hl
  have hm : (fX12_goesOn_2 N N x1 (0 : Int32) m) = some fin := hm
  refine lv_iconst (v := (0 : Int32)) hx hb dX12_goesOn_0 (by decide) ?_
  refine lv_istore_n (lv' := [(2, .int (0 : Int32)), (0, .ref (ad 99)), (1, .int x1)]) hx hb dX12_goesOn_1 rfl hl (by decide) rfl (fun ls hl => ?_)
  exact tX12_goesOn_2 N hn X hr fin  N x1 (0 : Int32) m H locs ls hI (lv_sub hl [1, 2, 0] rfl) hm
abbrev rmX12_sumOf : Room := { frames := 0, cells := 0, slots := 0, locals := 0 }
def fX12_sumOf_5 (N : Nat) : Nat → Nat → Int32 → Int32 → Int32 → Mem → Option Int32
  | 0, _, _, _, _, _ => none
  | n + 1, x1, x2, x3, x4, m => if (6 : Int32) ≤ x4 then (some x3) else (if (((6 : Int32) * x2) + x4) < 0 ∨ (lay x1).2 ≤ (((6 : Int32) * x2) + x4).toNatClampNeg then none else (fX12_sumOf_5 N n x1 x2 (x3 + (m.1 x1 (((6 : Int32) * x2) + x4).toNatClampNeg)) (x4 + (1 : Int32)) m))
set_option maxHeartbeats 4000000 in
set_option maxRecDepth 100000 in
theorem tX12_sumOf_5 (N : Nat) {l : Launch} {D : va_G} {ca : Nat → ClassId} {ad : Nat → Nat} {p : Program} {e : Env} {s : State} {mm : MethodId} {args : Array Value} {below : List Frame} {meth : Method} {c : Code}  (hn : HNr ca) (X : CX p s mm args meth c cX12_sumOf 5 RX12 D ca ad (WA ca ad s.heap.size)) (hr : meth.sig.returnType = (some .int)) (fin : Int32) (m0 : Mem)  : ∀ (n : Nat) (x1 : Nat) (x2 : Int32) (x3 : Int32) (x4 : Int32) (m : Mem) (H : Heap) (locs : List Loc) (ls : Array Slot), ly ca x1 = (1, (lay x1).2) → IW D ca ad (WA ca ad s.heap.size) s m H locs → lv_has ls 5 [(1, .ref (ad x1)), (2, .int x2), (3, .int x3), (4, .int x4)] → fX12_sumOf_5 N n x1 x2 x3 x4 m = some fin → m = m0 → W p l e rmX12_sumOf s mm args below meth c H locs 0 0 (MQ below (QI D ca ad s.heap.size fin m0) args s 0 0 (WA ca ad s.heap.size)) (F0 mm 5 ls []) := by
  have hx := X.1
  have hb := X.2.1
  intro n
  induction n with
  | zero => intro x1 x2 x3 x4 m H locs ls hx1 hI hl hm hpm
            exact absurd hm (by intro q; cases q)
  | succ n ih =>
    intro x1 x2 x3 x4 m H locs ls hx1 hI hl hm hpm
    have hm : (if (6 : Int32) ≤ x4 then (some x3) else (if (((6 : Int32) * x2) + x4) < 0 ∨ (lay x1).2 ≤ (((6 : Int32) * x2) + x4).toNatClampNeg then none else (fX12_sumOf_5 N n x1 x2 (x3 + (m.1 x1 (((6 : Int32) * x2) + x4).toNatClampNeg)) (x4 + (1 : Int32)) m))) = some fin := hm
    refine lv_iload hx hb dX12_sumOf_5 (lv_at hl 3 rfl) ?_
    refine lv_bipush (v := (6 : Int32)) hx hb dX12_sumOf_7 (by decide) ?_
    refine lv_icmp_ge (tgt := 30) hx hb dX12_sumOf_9 (by decide) (fun c1 => ?_) (fun c1 => ?_)
    · have hm := g_t c1 hm
      refine lv_iload_n hx hb dX12_sumOf_30 rfl (lv_at hl 2 rfl) ?_
      exact rI X hI hr (g_1 hm) hpm dX12_sumOf_31
    · have hm := g_f c1 hm
      refine lv_iload_n hx hb dX12_sumOf_12 rfl (lv_at hl 2 rfl) ?_
      refine lv_aload_n hx hb dX12_sumOf_13 rfl (lv_at hl 0 rfl) ?_
      refine lv_bipush (v := (6 : Int32)) hx hb dX12_sumOf_14 (by decide) ?_
      refine lv_iload_n hx hb dX12_sumOf_16 rfl (lv_at hl 1 rfl) ?_
      refine lv_imul hx hb dX12_sumOf_17 ?_
      refine lv_iload hx hb dX12_sumOf_18 (lv_at hl 3 rfl) ?_
      refine lv_iadd hx hb dX12_sumOf_20 ?_
      obtain ⟨g2, hm⟩ := g_no hm
      refine aI X hI hx1 g2 dX12_sumOf_21 ?_
      refine lv_iadd hx hb dX12_sumOf_22 ?_
      refine lv_istore_n (lv' := [(3, .int (x3 + (m.1 x1 (((6 : Int32) * x2) + x4).toNatClampNeg))), (1, .ref (ad x1)), (2, .int x2), (4, .int x4)]) hx hb dX12_sumOf_23 rfl hl (by decide) rfl (fun ls hl => ?_)
      refine lv_iinc (v := (x4 + (1 : Int32))) (lv' := [(4, .int (x4 + (1 : Int32))), (3, .int (x3 + (m.1 x1 (((6 : Int32) * x2) + x4).toNatClampNeg))), (1, .ref (ad x1)), (2, .int x2)]) hx hb dX12_sumOf_24 hl (k := 3) rfl rfl (by decide) rfl (fun ls hl => ?_)
      refine lv_goto (tgt := 5) hx hb dX12_sumOf_27 (by decide) ?_
      exact ih x1 x2 (x3 + (m.1 x1 (((6 : Int32) * x2) + x4).toNatClampNeg)) (x4 + (1 : Int32)) m H locs ls hx1 hI (lv_sub hl [2, 3, 1, 0] rfl) hm hpm
def fX12_sumOf (N : Nat) (x1 : Nat) (x2 : Int32) (m : Mem) : Option Int32 := fX12_sumOf_5 N N x1 x2 (0 : Int32) (0 : Int32) m
set_option maxHeartbeats 4000000 in
set_option maxRecDepth 100000 in
theorem ctX12_sumOf {l : Launch} {D : va_G} {ca : Nat → ClassId} {ad : Nat → Nat} (N : Nat) (x1 : Nat) (x2 : Int32) (hx1 : ly ca x1 = (1, (lay x1).2)) (hn : HNr ca) (m : Mem) (fin : Int32) (hm : fX12_sumOf N x1 x2 m = some fin) : CI l D ca ad yX12_sumOf cwX12_sumOf rmX12_sumOf [.ref (ad 99), .ref (ad x1), .int x2] m fin m := by
  refine start (by decide) (Nat.le_of_ble_eq_true rfl) ?_
  intro p e s mm args below meth c H locs ls X hI hr hl
  have X : CX p s mm args meth c cX12_sumOf 5 RX12 D ca ad (WA ca ad s.heap.size) := X
  have hx := X.1
  have hb := X.2.1
  have hl : lv_has ls 5 [(0, .ref (ad 99)), (1, .ref (ad x1)), (2, .int x2)] := hl
  have hm : (fX12_sumOf_5 N N x1 x2 (0 : Int32) (0 : Int32) m) = some fin := hm
  have hpm : m = m := rfl
  refine lv_iconst (v := (0 : Int32)) hx hb dX12_sumOf_0 (by decide) ?_
  refine lv_istore_n (lv' := [(3, .int (0 : Int32)), (0, .ref (ad 99)), (1, .ref (ad x1)), (2, .int x2)]) hx hb dX12_sumOf_1 rfl hl (by decide) rfl (fun ls hl => ?_)
  refine lv_iconst (v := (0 : Int32)) hx hb dX12_sumOf_2 (by decide) ?_
  refine lv_istore (lv' := [(4, .int (0 : Int32)), (3, .int (0 : Int32)), (0, .ref (ad 99)), (1, .ref (ad x1)), (2, .int x2)]) hx hb dX12_sumOf_3 hl (by decide) rfl (fun ls hl => ?_)
  exact tX12_sumOf_5 N hn X hr fin m  N x1 x2 (0 : Int32) (0 : Int32) m H locs ls hx1 hI (lv_sub hl [3, 4, 1, 0] rfl) hm hpm
abbrev rmX12_orNone : Room := { frames := 0, cells := 0, slots := 0, locals := 0 }
def fX12_orNone  (x0 : Int32) (m : Mem) : Option Int32 := if x0 = (-1 : Int32) then (some (-2 : Int32)) else (some x0)
set_option maxHeartbeats 4000000 in
set_option maxRecDepth 100000 in
theorem ctX12_orNone {l : Launch} {D : va_G} {ca : Nat → ClassId} {ad : Nat → Nat}  (x0 : Int32)  (hn : HNr ca) (m : Mem) (fin : Int32) (hm : fX12_orNone x0 m = some fin) : CI l D ca ad yX12_orNone cwX12_orNone rmX12_orNone [.int x0] m fin m := by
  refine start (by decide) (Nat.le_of_ble_eq_true rfl) ?_
  intro p e s mm args below meth c H locs ls X hI hr hl
  have X : CX p s mm args meth c cX12_orNone 1 RX12 D ca ad (WA ca ad s.heap.size) := X
  have hx := X.1
  have hb := X.2.1
  have hl : lv_has ls 1 [(0, .int x0)] := hl
  have hm : (if x0 = (-1 : Int32) then (some (-2 : Int32)) else (some x0)) = some fin := hm
  have hpm : m = m := rfl
  refine lv_iload_n hx hb dX12_orNone_0 rfl (lv_at hl 0 rfl) ?_
  refine lv_iconst (v := (-1 : Int32)) hx hb dX12_orNone_1 (by decide) ?_
  refine lv_icmp_ne (tgt := 10) hx hb dX12_orNone_2 (by decide) (fun c1 => ?_) (fun c1 => ?_)
  · have hm := g_f c1 hm
    refine lv_iload_n hx hb dX12_orNone_10 rfl (lv_at hl 0 rfl) ?_
    exact rI X hI hr (g_1 hm) hpm dX12_orNone_11
  · have hm := g_t c1 hm
    refine lv_bipush (v := (-2 : Int32)) hx hb dX12_orNone_5 (by decide) ?_
    refine lv_goto (tgt := 11) hx hb dX12_orNone_7 (by decide) ?_
    exact rI X hI hr (g_1 hm) hpm dX12_orNone_11
abbrev rmX12_tub : Room := { frames := 1, cells := 0, slots := 0, locals := 23 }
abbrev cwX12_tub : Cond := .code yX12_tub cX12_tub 3 (some .int)
theorem cmX12_tub : cwX12_tub ∈ BIG := (tb7 (List.mem_of_getElem? (i := 141) rfl) rfl)
def fX12_tub_27 (N : Nat) (x1 : Int32) (x2 : Int32) (y0 : Int32) (m : Mem) : Option (Int32 × Mem) := if ((mI m 99 0 y0).1 99 0) = 0 then (if x2 = 0 then (if x1 < 0 ∨ 138 ≤ x1.toNatClampNeg then none else (some (((mI m 99 0 y0).1 126 x1.toNatClampNeg), (mI m 99 0 y0)))) else (if x2 = (1 : Int32) then (if x1 < 0 ∨ 138 ≤ x1.toNatClampNeg then none else (some (((mI m 99 0 y0).1 127 x1.toNatClampNeg), (mI m 99 0 y0)))) else ((fX12_whoIn N (0 : Int32) x1 (mI m 99 0 y0)).bind (fun q8 => (fX12_orNone q8 (mI m 99 0 y0)).bind (fun q10 => some (q10, (mI m 99 0 y0))))))) else (some ((0 : Int32), (mI m 99 0 y0)))
set_option maxHeartbeats 4000000 in
set_option maxRecDepth 100000 in
theorem tX12_tub_27 (N : Nat) {l : Launch} {D : va_G} {ca : Nat → ClassId} {ad : Nat → Nat} {p : Program} {e : Env} {s : State} {mm : MethodId} {args : Array Value} {below : List Frame} {meth : Method} {c : Code}  (hn : HNr ca) (X : CX p s mm args meth c cX12_tub 3 RX12 D ca ad (WA ca ad s.heap.size)) (hr : meth.sig.returnType = (some .int)) (fin : (Int32 × Mem))  : ∀ (x1 : Int32) (x2 : Int32) (y0 : Int32) (m : Mem) (H : Heap) (locs : List Loc) (ls : Array Slot), IW D ca ad (WA ca ad s.heap.size) s m H locs → lv_has ls 3 [(0, .ref (ad 99)), (1, .int x1), (2, .int x2)] → fX12_tub_27 N x1 x2 y0 m = some fin → W p l e rmX12_tub s mm args below meth c H locs 0 0 (MQ below (QI D ca ad s.heap.size fin.1 fin.2) args s 0 0 (WA ca ad s.heap.size)) (F0 mm 27 ls [.int y0, .ref (ad 99)]) := by
  have hx := X.1
  have hb := X.2.1
  intro x1 x2 y0 m H locs ls hI hl hm
  have hm : (if ((mI m 99 0 y0).1 99 0) = 0 then (if x2 = 0 then (if x1 < 0 ∨ 138 ≤ x1.toNatClampNeg then none else (some (((mI m 99 0 y0).1 126 x1.toNatClampNeg), (mI m 99 0 y0)))) else (if x2 = (1 : Int32) then (if x1 < 0 ∨ 138 ≤ x1.toNatClampNeg then none else (some (((mI m 99 0 y0).1 127 x1.toNatClampNeg), (mI m 99 0 y0)))) else ((fX12_whoIn N (0 : Int32) x1 (mI m 99 0 y0)).bind (fun q8 => (fX12_orNone q8 (mI m 99 0 y0)).bind (fun q10 => some (q10, (mI m 99 0 y0))))))) else (some ((0 : Int32), (mI m 99 0 y0)))) = some fin := hm
  refine pI X hI fpX12_154 (la_99 hn) dX12_tub_27 (fun H locs hI => ?_)
  refine lv_aload_n hx hb dX12_tub_30 rfl (lv_at hl 0 rfl) ?_
  refine gI X hI fdX12_154 (la_99 hn) dX12_tub_31 ?_
  refine lv_if_eq (tgt := 39) hx hb dX12_tub_34 (by decide) (fun c5 => ?_) (fun c5 => ?_)
  · have hm := g_t c5 hm
    refine lv_iload_n hx hb dX12_tub_39 rfl (lv_at hl 2 rfl) ?_
    refine lv_if_ne (tgt := 52) hx hb dX12_tub_40 (by decide) (fun c6 => ?_) (fun c6 => ?_)
    · have hm := g_f c6 hm
      refine lv_iload_n hx hb dX12_tub_52 rfl (lv_at hl 2 rfl) ?_
      refine lv_iconst (v := (1 : Int32)) hx hb dX12_tub_53 (by decide) ?_
      refine lv_icmp_ne (tgt := 66) hx hb dX12_tub_54 (by decide) (fun c7 => ?_) (fun c7 => ?_)
      · have hm := g_f c7 hm
        refine lv_aload_n hx hb dX12_tub_66 rfl (lv_at hl 0 rfl) ?_
        refine lv_iconst (v := (0 : Int32)) hx hb dX12_tub_67 (by decide) ?_
        refine lv_iload_n hx hb dX12_tub_68 rfl (lv_at hl 1 rfl) ?_
        obtain ⟨q8, h9, hm⟩ := g_b hm
        refine backI X hI (runV X hI (ctX12_whoIn N (0 : Int32) x1  hn _ _ h9 _) mdX12_398 (la_99 hn) rfl ⟨rfl, rfl⟩ ⟨Nat.le_of_ble_eq_true rfl, Nat.le_of_ble_eq_true rfl⟩ rfl hl.1 rfl (Nat.le_of_ble_eq_true rfl) dX12_tub_69) (fun H locs hI => ?_)
        obtain ⟨q10, h11, hm⟩ := g_b hm
        refine backI X hI (runS X hI (ctX12_orNone q8  hn _ _ h11 _) msX12_416 ⟨rfl, rfl⟩ ⟨Nat.le_of_ble_eq_true rfl, Nat.le_of_ble_eq_true rfl⟩ rfl hl.1 rfl (Nat.le_of_ble_eq_true rfl) dX12_tub_72) (fun H locs hI => ?_)
        exact rI X hI hr (g_p hm).1 (g_p hm).2 dX12_tub_75
      · have hm := g_t c7 hm
        refine lv_aload_n hx hb dX12_tub_57 rfl (lv_at hl 0 rfl) ?_
        refine gR X hI fdX12_96 (la_99 hn) rf12_43 dX12_tub_58 ?_
        refine lv_iload_n hx hb dX12_tub_61 rfl (lv_at hl 1 rfl) ?_
        obtain ⟨g12, hm⟩ := g_no hm
        refine aI X hI (la_127 hn) g12 dX12_tub_62 ?_
        refine lv_goto (tgt := 75) hx hb dX12_tub_63 (by decide) ?_
        exact rI X hI hr (g_p hm).1 (g_p hm).2 dX12_tub_75
    · have hm := g_t c6 hm
      refine lv_aload_n hx hb dX12_tub_43 rfl (lv_at hl 0 rfl) ?_
      refine gR X hI fdX12_93 (la_99 hn) rf12_42 dX12_tub_44 ?_
      refine lv_iload_n hx hb dX12_tub_47 rfl (lv_at hl 1 rfl) ?_
      obtain ⟨g13, hm⟩ := g_no hm
      refine aI X hI (la_126 hn) g13 dX12_tub_48 ?_
      refine lv_goto (tgt := 75) hx hb dX12_tub_49 (by decide) ?_
      exact rI X hI hr (g_p hm).1 (g_p hm).2 dX12_tub_75
  · have hm := g_f c5 hm
    refine lv_iconst (v := (0 : Int32)) hx hb dX12_tub_37 (by decide) ?_
    exact rI X hI hr (g_p hm).1 (g_p hm).2 dX12_tub_38
def fX12_tub_22 (N : Nat) (x1 : Int32) (x2 : Int32) (m : Mem) : Option (Int32 × Mem) := fX12_tub_27 N x1 x2 (2 : Int32) m
set_option maxHeartbeats 4000000 in
set_option maxRecDepth 100000 in
theorem tX12_tub_22 (N : Nat) {l : Launch} {D : va_G} {ca : Nat → ClassId} {ad : Nat → Nat} {p : Program} {e : Env} {s : State} {mm : MethodId} {args : Array Value} {below : List Frame} {meth : Method} {c : Code}  (hn : HNr ca) (X : CX p s mm args meth c cX12_tub 3 RX12 D ca ad (WA ca ad s.heap.size)) (hr : meth.sig.returnType = (some .int)) (fin : (Int32 × Mem))  : ∀ (x1 : Int32) (x2 : Int32) (m : Mem) (H : Heap) (locs : List Loc) (ls : Array Slot), IW D ca ad (WA ca ad s.heap.size) s m H locs → lv_has ls 3 [(0, .ref (ad 99)), (1, .int x1), (2, .int x2)] → fX12_tub_22 N x1 x2 m = some fin → W p l e rmX12_tub s mm args below meth c H locs 0 0 (MQ below (QI D ca ad s.heap.size fin.1 fin.2) args s 0 0 (WA ca ad s.heap.size)) (F0 mm 22 ls [.ref (ad 99)]) := by
  have hx := X.1
  have hb := X.2.1
  intro x1 x2 m H locs ls hI hl hm
  have hm : (fX12_tub_27 N x1 x2 (2 : Int32) m) = some fin := hm
  refine lv_iconst (v := (2 : Int32)) hx hb dX12_tub_22 (by decide) ?_
  refine lv_goto (tgt := 27) hx hb dX12_tub_23 (by decide) ?_
  exact tX12_tub_27 N hn X hr fin  x1 x2 (2 : Int32) m H locs ls hI (lv_sub hl [0, 1, 2] rfl) hm
def fX12_tub (N : Nat) (x1 : Int32) (x2 : Int32) (m : Mem) : Option (Int32 × Mem) := (fX12_isTub x1 m).bind (fun q1 => if q1 = 0 then (fX12_tub_27 N x1 x2 (1 : Int32) m) else (if x2 < 0 then (fX12_tub_22 N x1 x2 m) else (if x2 ≤ (2 : Int32) then (fX12_tub_27 N x1 x2 (0 : Int32) m) else (fX12_tub_22 N x1 x2 m))))
set_option maxHeartbeats 4000000 in
set_option maxRecDepth 100000 in
theorem ctX12_tub {l : Launch} {D : va_G} {ca : Nat → ClassId} {ad : Nat → Nat} (N : Nat) (x1 : Int32) (x2 : Int32)  (hn : HNr ca) (m : Mem) (fin : (Int32 × Mem)) (hm : fX12_tub N x1 x2 m = some fin) : CI l D ca ad yX12_tub cwX12_tub rmX12_tub [.ref (ad 99), .int x1, .int x2] m fin.1 fin.2 := by
  refine start (by decide) (Nat.le_of_ble_eq_true rfl) ?_
  intro p e s mm args below meth c H locs ls X hI hr hl
  have X : CX p s mm args meth c cX12_tub 3 RX12 D ca ad (WA ca ad s.heap.size) := X
  have hx := X.1
  have hb := X.2.1
  have hl : lv_has ls 3 [(0, .ref (ad 99)), (1, .int x1), (2, .int x2)] := hl
  have hm : ((fX12_isTub x1 m).bind (fun q1 => if q1 = 0 then (fX12_tub_27 N x1 x2 (1 : Int32) m) else (if x2 < 0 then (fX12_tub_22 N x1 x2 m) else (if x2 ≤ (2 : Int32) then (fX12_tub_27 N x1 x2 (0 : Int32) m) else (fX12_tub_22 N x1 x2 m))))) = some fin := hm
  refine lv_aload_n hx hb dX12_tub_0 rfl (lv_at hl 0 rfl) ?_
  refine lv_aload_n hx hb dX12_tub_1 rfl (lv_at hl 0 rfl) ?_
  refine lv_iload_n hx hb dX12_tub_2 rfl (lv_at hl 1 rfl) ?_
  obtain ⟨q1, h2, hm⟩ := g_b hm
  refine backI X hI (runV X hI (ctX12_isTub x1  hn _ _ h2 _) mdX12_413 (la_99 hn) rfl ⟨rfl, rfl⟩ ⟨Nat.le_of_ble_eq_true rfl, Nat.le_of_ble_eq_true rfl⟩ rfl hl.1 rfl (Nat.le_of_ble_eq_true rfl) dX12_tub_3) (fun H locs hI => ?_)
  refine lv_if_ne (tgt := 13) hx hb dX12_tub_6 (by decide) (fun c3 => ?_) (fun c3 => ?_)
  · have hm := g_f c3 hm
    refine lv_iload_n hx hb dX12_tub_13 rfl (lv_at hl 2 rfl) ?_
    refine lv_if_lt (tgt := 22) hx hb dX12_tub_14 (by decide) (fun c4 => ?_) (fun c4 => ?_)
    · have hm := g_t c4 hm
      exact tX12_tub_22 N hn X hr fin  x1 x2 m H locs ls hI (lv_sub hl [0, 1, 2] rfl) hm
    · have hm := g_f c4 hm
      refine lv_iload_n hx hb dX12_tub_17 rfl (lv_at hl 2 rfl) ?_
      refine lv_iconst (v := (2 : Int32)) hx hb dX12_tub_18 (by decide) ?_
      refine lv_icmp_le (tgt := 26) hx hb dX12_tub_19 (by decide) (fun c14 => ?_) (fun c14 => ?_)
      · have hm := g_t c14 hm
        refine lv_iconst (v := (0 : Int32)) hx hb dX12_tub_26 (by decide) ?_
        exact tX12_tub_27 N hn X hr fin  x1 x2 (0 : Int32) m H locs ls hI (lv_sub hl [0, 1, 2] rfl) hm
      · have hm := g_f c14 hm
        exact tX12_tub_22 N hn X hr fin  x1 x2 m H locs ls hI (lv_sub hl [0, 1, 2] rfl) hm
  · have hm := g_t c3 hm
    refine lv_iconst (v := (1 : Int32)) hx hb dX12_tub_9 (by decide) ?_
    refine lv_goto (tgt := 27) hx hb dX12_tub_10 (by decide) ?_
    exact tX12_tub_27 N hn X hr fin  x1 x2 (1 : Int32) m H locs ls hI (lv_sub hl [0, 1, 2] rfl) hm
abbrev rmX12_knight : Room := { frames := 1, cells := 0, slots := 0, locals := 21 }
abbrev cwX12_knight : Cond := .code yX12_knight cX12_knight 3 (some .int)
theorem cmX12_knight : cwX12_knight ∈ BIG := (tb7 (List.mem_of_getElem? (i := 156) rfl) rfl)
def fX12_knight  (x1 : Int32) (x2 : Int32) (m : Mem) : Option (Int32 × Mem) := (fX12_isKnight x1 (mI m 99 0 (0 : Int32))).bind (fun q1 => if q1 = 0 then (some ((-1 : Int32), (mI m 99 0 (0 : Int32)))) else (if x2 = (0 : Int32) then (if x1 < 0 ∨ 138 ≤ x1.toNatClampNeg then none else (some (((mI m 99 0 (0 : Int32)).1 128 x1.toNatClampNeg), (mI m 99 0 (0 : Int32))))) else (if x2 = (1 : Int32) then (if x1 < 0 ∨ 12 ≤ x1.toNatClampNeg then none else (some (((mI m 99 0 (0 : Int32)).1 104 x1.toNatClampNeg), (mI m 99 0 (0 : Int32))))) else (if x2 = (2 : Int32) then (if x1 < 0 ∨ 138 ≤ x1.toNatClampNeg then none else ((fX12_orNone ((mI m 99 0 (0 : Int32)).1 129 x1.toNatClampNeg) (mI m 99 0 (0 : Int32))).bind (fun q10 => some (q10, (mI m 99 0 (0 : Int32)))))) else (if x2 = (3 : Int32) then (if x1 < 0 ∨ 138 ≤ x1.toNatClampNeg then none else (some (((mI m 99 0 (0 : Int32)).1 131 x1.toNatClampNeg), (mI m 99 0 (0 : Int32))))) else (if x2 = (4 : Int32) then (if x1 < 0 ∨ 138 ≤ x1.toNatClampNeg then none else (some (((mI m 99 0 (0 : Int32)).1 132 x1.toNatClampNeg), (mI m 99 0 (0 : Int32))))) else (if x2 = (5 : Int32) then (if x1 < 0 ∨ 138 ≤ x1.toNatClampNeg then none else (some (((mI m 99 0 (0 : Int32)).1 130 x1.toNatClampNeg), (mI m 99 0 (0 : Int32))))) else (if x2 = (6 : Int32) then (if x1 < 0 ∨ 138 ≤ x1.toNatClampNeg then none else (some (((mI m 99 0 (0 : Int32)).1 133 x1.toNatClampNeg), (mI m 99 0 (0 : Int32))))) else (some ((-1 : Int32), (mI m 99 0 (0 : Int32))))))))))))
set_option maxHeartbeats 4000000 in
set_option maxRecDepth 100000 in
theorem ctX12_knight {l : Launch} {D : va_G} {ca : Nat → ClassId} {ad : Nat → Nat}  (x1 : Int32) (x2 : Int32)  (hn : HNr ca) (m : Mem) (fin : (Int32 × Mem)) (hm : fX12_knight x1 x2 m = some fin) : CI l D ca ad yX12_knight cwX12_knight rmX12_knight [.ref (ad 99), .int x1, .int x2] m fin.1 fin.2 := by
  refine start (by decide) (Nat.le_of_ble_eq_true rfl) ?_
  intro p e s mm args below meth c H locs ls X hI hr hl
  have X : CX p s mm args meth c cX12_knight 3 RX12 D ca ad (WA ca ad s.heap.size) := X
  have hx := X.1
  have hb := X.2.1
  have hl : lv_has ls 3 [(0, .ref (ad 99)), (1, .int x1), (2, .int x2)] := hl
  have hm : ((fX12_isKnight x1 (mI m 99 0 (0 : Int32))).bind (fun q1 => if q1 = 0 then (some ((-1 : Int32), (mI m 99 0 (0 : Int32)))) else (if x2 = (0 : Int32) then (if x1 < 0 ∨ 138 ≤ x1.toNatClampNeg then none else (some (((mI m 99 0 (0 : Int32)).1 128 x1.toNatClampNeg), (mI m 99 0 (0 : Int32))))) else (if x2 = (1 : Int32) then (if x1 < 0 ∨ 12 ≤ x1.toNatClampNeg then none else (some (((mI m 99 0 (0 : Int32)).1 104 x1.toNatClampNeg), (mI m 99 0 (0 : Int32))))) else (if x2 = (2 : Int32) then (if x1 < 0 ∨ 138 ≤ x1.toNatClampNeg then none else ((fX12_orNone ((mI m 99 0 (0 : Int32)).1 129 x1.toNatClampNeg) (mI m 99 0 (0 : Int32))).bind (fun q10 => some (q10, (mI m 99 0 (0 : Int32)))))) else (if x2 = (3 : Int32) then (if x1 < 0 ∨ 138 ≤ x1.toNatClampNeg then none else (some (((mI m 99 0 (0 : Int32)).1 131 x1.toNatClampNeg), (mI m 99 0 (0 : Int32))))) else (if x2 = (4 : Int32) then (if x1 < 0 ∨ 138 ≤ x1.toNatClampNeg then none else (some (((mI m 99 0 (0 : Int32)).1 132 x1.toNatClampNeg), (mI m 99 0 (0 : Int32))))) else (if x2 = (5 : Int32) then (if x1 < 0 ∨ 138 ≤ x1.toNatClampNeg then none else (some (((mI m 99 0 (0 : Int32)).1 130 x1.toNatClampNeg), (mI m 99 0 (0 : Int32))))) else (if x2 = (6 : Int32) then (if x1 < 0 ∨ 138 ≤ x1.toNatClampNeg then none else (some (((mI m 99 0 (0 : Int32)).1 133 x1.toNatClampNeg), (mI m 99 0 (0 : Int32))))) else (some ((-1 : Int32), (mI m 99 0 (0 : Int32))))))))))))) = some fin := hm
  refine lv_aload_n hx hb dX12_knight_0 rfl (lv_at hl 0 rfl) ?_
  refine lv_iconst (v := (0 : Int32)) hx hb dX12_knight_1 (by decide) ?_
  refine pI X hI fpX12_154 (la_99 hn) dX12_knight_2 (fun H locs hI => ?_)
  refine lv_aload_n hx hb dX12_knight_5 rfl (lv_at hl 0 rfl) ?_
  refine lv_iload_n hx hb dX12_knight_6 rfl (lv_at hl 1 rfl) ?_
  obtain ⟨q1, h2, hm⟩ := g_b hm
  refine backI X hI (runV X hI (ctX12_isKnight x1  hn _ _ h2 _) mdX12_419 (la_99 hn) rfl ⟨rfl, rfl⟩ ⟨Nat.le_of_ble_eq_true rfl, Nat.le_of_ble_eq_true rfl⟩ rfl hl.1 rfl (Nat.le_of_ble_eq_true rfl) dX12_knight_7) (fun H locs hI => ?_)
  refine lv_if_ne (tgt := 15) hx hb dX12_knight_10 (by decide) (fun c3 => ?_) (fun c3 => ?_)
  · have hm := g_f c3 hm
    refine lv_iload_n hx hb dX12_knight_15 rfl (lv_at hl 2 rfl) ?_
    by_cases c4 : x2 = (0 : Int32)
    · have hm := g_t c4 hm
      refine lv_tableIn (tgt := 60) hx hb dX12_knight_16 (by rw [c4]; decide) (by rw [c4]; decide) (off := 44) (by rw [c4]; decide) (by decide) ?_
      refine lv_aload_n hx hb dX12_knight_60 rfl (lv_at hl 0 rfl) ?_
      refine gR X hI fdX12_99 (la_99 hn) rf12_44 dX12_knight_61 ?_
      refine lv_iload_n hx hb dX12_knight_64 rfl (lv_at hl 1 rfl) ?_
      obtain ⟨g5, hm⟩ := g_no hm
      refine aI X hI (la_128 hn) g5 dX12_knight_65 ?_
      exact rI X hI hr (g_p hm).1 (g_p hm).2 dX12_knight_66
    · have hm := g_f c4 hm
      by_cases c6 : x2 = (1 : Int32)
      · have hm := g_t c6 hm
        refine lv_tableIn (tgt := 67) hx hb dX12_knight_16 (by rw [c6]; decide) (by rw [c6]; decide) (off := 51) (by rw [c6]; decide) (by decide) ?_
        refine lv_aload_n hx hb dX12_knight_67 rfl (lv_at hl 0 rfl) ?_
        refine gR X hI fdX12_22 (la_99 hn) rf12_6 dX12_knight_68 ?_
        refine lv_iload_n hx hb dX12_knight_71 rfl (lv_at hl 1 rfl) ?_
        obtain ⟨g7, hm⟩ := g_no hm
        refine aI X hI (la_104 hn) g7 dX12_knight_72 ?_
        exact rI X hI hr (g_p hm).1 (g_p hm).2 dX12_knight_73
      · have hm := g_f c6 hm
        by_cases c8 : x2 = (2 : Int32)
        · have hm := g_t c8 hm
          refine lv_tableIn (tgt := 74) hx hb dX12_knight_16 (by rw [c8]; decide) (by rw [c8]; decide) (off := 58) (by rw [c8]; decide) (by decide) ?_
          refine lv_aload_n hx hb dX12_knight_74 rfl (lv_at hl 0 rfl) ?_
          refine gR X hI fdX12_102 (la_99 hn) rf12_45 dX12_knight_75 ?_
          refine lv_iload_n hx hb dX12_knight_78 rfl (lv_at hl 1 rfl) ?_
          obtain ⟨g9, hm⟩ := g_no hm
          refine aI X hI (la_129 hn) g9 dX12_knight_79 ?_
          obtain ⟨q10, h11, hm⟩ := g_b hm
          refine backI X hI (runS X hI (ctX12_orNone ((mI m 99 0 (0 : Int32)).1 129 x1.toNatClampNeg)  hn _ _ h11 _) msX12_416 ⟨rfl, rfl⟩ ⟨Nat.le_of_ble_eq_true rfl, Nat.le_of_ble_eq_true rfl⟩ rfl hl.1 rfl (Nat.le_of_ble_eq_true rfl) dX12_knight_80) (fun H locs hI => ?_)
          exact rI X hI hr (g_p hm).1 (g_p hm).2 dX12_knight_83
        · have hm := g_f c8 hm
          by_cases c12 : x2 = (3 : Int32)
          · have hm := g_t c12 hm
            refine lv_tableIn (tgt := 84) hx hb dX12_knight_16 (by rw [c12]; decide) (by rw [c12]; decide) (off := 68) (by rw [c12]; decide) (by decide) ?_
            refine lv_aload_n hx hb dX12_knight_84 rfl (lv_at hl 0 rfl) ?_
            refine gR X hI fdX12_108 (la_99 hn) rf12_47 dX12_knight_85 ?_
            refine lv_iload_n hx hb dX12_knight_88 rfl (lv_at hl 1 rfl) ?_
            obtain ⟨g13, hm⟩ := g_no hm
            refine aI X hI (la_131 hn) g13 dX12_knight_89 ?_
            exact rI X hI hr (g_p hm).1 (g_p hm).2 dX12_knight_90
          · have hm := g_f c12 hm
            by_cases c14 : x2 = (4 : Int32)
            · have hm := g_t c14 hm
              refine lv_tableIn (tgt := 91) hx hb dX12_knight_16 (by rw [c14]; decide) (by rw [c14]; decide) (off := 75) (by rw [c14]; decide) (by decide) ?_
              refine lv_aload_n hx hb dX12_knight_91 rfl (lv_at hl 0 rfl) ?_
              refine gR X hI fdX12_111 (la_99 hn) rf12_48 dX12_knight_92 ?_
              refine lv_iload_n hx hb dX12_knight_95 rfl (lv_at hl 1 rfl) ?_
              obtain ⟨g15, hm⟩ := g_no hm
              refine aI X hI (la_132 hn) g15 dX12_knight_96 ?_
              exact rI X hI hr (g_p hm).1 (g_p hm).2 dX12_knight_97
            · have hm := g_f c14 hm
              by_cases c16 : x2 = (5 : Int32)
              · have hm := g_t c16 hm
                refine lv_tableIn (tgt := 98) hx hb dX12_knight_16 (by rw [c16]; decide) (by rw [c16]; decide) (off := 82) (by rw [c16]; decide) (by decide) ?_
                refine lv_aload_n hx hb dX12_knight_98 rfl (lv_at hl 0 rfl) ?_
                refine gR X hI fdX12_105 (la_99 hn) rf12_46 dX12_knight_99 ?_
                refine lv_iload_n hx hb dX12_knight_102 rfl (lv_at hl 1 rfl) ?_
                obtain ⟨g17, hm⟩ := g_no hm
                refine aI X hI (la_130 hn) g17 dX12_knight_103 ?_
                exact rI X hI hr (g_p hm).1 (g_p hm).2 dX12_knight_104
              · have hm := g_f c16 hm
                by_cases c18 : x2 = (6 : Int32)
                · have hm := g_t c18 hm
                  refine lv_tableIn (tgt := 105) hx hb dX12_knight_16 (by rw [c18]; decide) (by rw [c18]; decide) (off := 89) (by rw [c18]; decide) (by decide) ?_
                  refine lv_aload_n hx hb dX12_knight_105 rfl (lv_at hl 0 rfl) ?_
                  refine gR X hI fdX12_114 (la_99 hn) rf12_49 dX12_knight_106 ?_
                  refine lv_iload_n hx hb dX12_knight_109 rfl (lv_at hl 1 rfl) ?_
                  obtain ⟨g19, hm⟩ := g_no hm
                  refine aI X hI (la_133 hn) g19 dX12_knight_110 ?_
                  exact rI X hI hr (g_p hm).1 (g_p hm).2 dX12_knight_111
                · have hm := g_f c18 hm
                  have ec4 := lv_neT c4 (a := 0) (by decide)
                  have ec6 := lv_neT c6 (a := 1) (by decide)
                  have ec8 := lv_neT c8 (a := 2) (by decide)
                  have ec12 := lv_neT c12 (a := 3) (by decide)
                  have ec14 := lv_neT c14 (a := 4) (by decide)
                  have ec16 := lv_neT c16 (a := 5) (by decide)
                  have ec18 := lv_neT c18 (a := 6) (by decide)
                  refine lv_tableOut (tgt := 112) hx hb dX12_knight_16 (by omega) (by decide) ?_
                  refine lv_iconst (v := (-1 : Int32)) hx hb dX12_knight_112 (by decide) ?_
                  exact rI X hI hr (g_p hm).1 (g_p hm).2 dX12_knight_113
  · have hm := g_t c3 hm
    refine lv_iconst (v := (-1 : Int32)) hx hb dX12_knight_13 (by decide) ?_
    exact rI X hI hr (g_p hm).1 (g_p hm).2 dX12_knight_14
abbrev rmX12_atEase : Room := { frames := 4, cells := 0, slots := 0, locals := 97 }
abbrev cwX12_atEase : Cond := .code yX12_atEase cX12_atEase 3 (some .int)
theorem cmX12_atEase : cwX12_atEase ∈ BIG := (tb7 (List.mem_of_getElem? (i := 164) rfl) rfl)
def fX12_atEase (N : Nat) (x1 : Int32) (x2 : Int32) (m : Mem) : Option (Int32 × Mem) := (fX12_isKnight x1 (mI m 99 0 (0 : Int32))).bind (fun q1 => if q1 = 0 then (some ((-1 : Int32), (mI m 99 0 (0 : Int32)))) else ((fX12_isTub x2 (mI m 99 0 (0 : Int32))).bind (fun q4 => if q4 = 0 then (some ((-1 : Int32), (mI m 99 0 (0 : Int32)))) else ((fX12_isAtEase N (0 : Int32) x1 x2 (0 : Int32) (mI m 99 0 (0 : Int32))).bind (fun q7 => if q7.1 = 0 then (some ((0 : Int32), q7.2)) else (some ((1 : Int32), q7.2)))))))
set_option maxHeartbeats 4000000 in
set_option maxRecDepth 100000 in
theorem ctX12_atEase {l : Launch} {D : va_G} {ca : Nat → ClassId} {ad : Nat → Nat} (N : Nat) (x1 : Int32) (x2 : Int32)  (hn : HNr ca) (m : Mem) (fin : (Int32 × Mem)) (hm : fX12_atEase N x1 x2 m = some fin) : CI l D ca ad yX12_atEase cwX12_atEase rmX12_atEase [.ref (ad 99), .int x1, .int x2] m fin.1 fin.2 := by
  refine start (by decide) (Nat.le_of_ble_eq_true rfl) ?_
  intro p e s mm args below meth c H locs ls X hI hr hl
  have X : CX p s mm args meth c cX12_atEase 3 RX12 D ca ad (WA ca ad s.heap.size) := X
  have hx := X.1
  have hb := X.2.1
  have hl : lv_has ls 3 [(0, .ref (ad 99)), (1, .int x1), (2, .int x2)] := hl
  have hm : ((fX12_isKnight x1 (mI m 99 0 (0 : Int32))).bind (fun q1 => if q1 = 0 then (some ((-1 : Int32), (mI m 99 0 (0 : Int32)))) else ((fX12_isTub x2 (mI m 99 0 (0 : Int32))).bind (fun q4 => if q4 = 0 then (some ((-1 : Int32), (mI m 99 0 (0 : Int32)))) else ((fX12_isAtEase N (0 : Int32) x1 x2 (0 : Int32) (mI m 99 0 (0 : Int32))).bind (fun q7 => if q7.1 = 0 then (some ((0 : Int32), q7.2)) else (some ((1 : Int32), q7.2)))))))) = some fin := hm
  refine lv_aload_n hx hb dX12_atEase_0 rfl (lv_at hl 0 rfl) ?_
  refine lv_iconst (v := (0 : Int32)) hx hb dX12_atEase_1 (by decide) ?_
  refine pI X hI fpX12_154 (la_99 hn) dX12_atEase_2 (fun H locs hI => ?_)
  refine lv_aload_n hx hb dX12_atEase_5 rfl (lv_at hl 0 rfl) ?_
  refine lv_iload_n hx hb dX12_atEase_6 rfl (lv_at hl 1 rfl) ?_
  obtain ⟨q1, h2, hm⟩ := g_b hm
  refine backI X hI (runV X hI (ctX12_isKnight x1  hn _ _ h2 _) mdX12_419 (la_99 hn) rfl ⟨rfl, rfl⟩ ⟨Nat.le_of_ble_eq_true rfl, Nat.le_of_ble_eq_true rfl⟩ rfl hl.1 rfl (Nat.le_of_ble_eq_true rfl) dX12_atEase_7) (fun H locs hI => ?_)
  refine lv_if_eq (tgt := 21) hx hb dX12_atEase_10 (by decide) (fun c3 => ?_) (fun c3 => ?_)
  · have hm := g_t c3 hm
    refine lv_iconst (v := (-1 : Int32)) hx hb dX12_atEase_21 (by decide) ?_
    exact rI X hI hr (g_p hm).1 (g_p hm).2 dX12_atEase_22
  · have hm := g_f c3 hm
    refine lv_aload_n hx hb dX12_atEase_13 rfl (lv_at hl 0 rfl) ?_
    refine lv_iload_n hx hb dX12_atEase_14 rfl (lv_at hl 2 rfl) ?_
    obtain ⟨q4, h5, hm⟩ := g_b hm
    refine backI X hI (runV X hI (ctX12_isTub x2  hn _ _ h5 _) mdX12_413 (la_99 hn) rfl ⟨rfl, rfl⟩ ⟨Nat.le_of_ble_eq_true rfl, Nat.le_of_ble_eq_true rfl⟩ rfl hl.1 rfl (Nat.le_of_ble_eq_true rfl) dX12_atEase_15) (fun H locs hI => ?_)
    refine lv_if_ne (tgt := 23) hx hb dX12_atEase_18 (by decide) (fun c6 => ?_) (fun c6 => ?_)
    · have hm := g_f c6 hm
      refine lv_aload_n hx hb dX12_atEase_23 rfl (lv_at hl 0 rfl) ?_
      refine lv_iconst (v := (0 : Int32)) hx hb dX12_atEase_24 (by decide) ?_
      refine lv_iload_n hx hb dX12_atEase_25 rfl (lv_at hl 1 rfl) ?_
      refine lv_iload_n hx hb dX12_atEase_26 rfl (lv_at hl 2 rfl) ?_
      refine lv_iconst (v := (0 : Int32)) hx hb dX12_atEase_27 (by decide) ?_
      obtain ⟨q7, h8, hm⟩ := g_b hm
      refine backI X hI (runV X hI (ctX12_isAtEase N (0 : Int32) x1 x2 (0 : Int32)  hn _ _ h8 _) mdX12_382 (la_99 hn) rfl ⟨rfl, rfl⟩ ⟨Nat.le_of_ble_eq_true rfl, Nat.le_of_ble_eq_true rfl⟩ rfl hl.1 rfl (Nat.le_of_ble_eq_true rfl) dX12_atEase_28) (fun H locs hI => ?_)
      refine lv_if_eq (tgt := 38) hx hb dX12_atEase_31 (by decide) (fun c9 => ?_) (fun c9 => ?_)
      · have hm := g_t c9 hm
        refine lv_iconst (v := (0 : Int32)) hx hb dX12_atEase_38 (by decide) ?_
        exact rI X hI hr (g_p hm).1 (g_p hm).2 dX12_atEase_39
      · have hm := g_f c9 hm
        refine lv_iconst (v := (1 : Int32)) hx hb dX12_atEase_34 (by decide) ?_
        refine lv_goto (tgt := 39) hx hb dX12_atEase_35 (by decide) ?_
        exact rI X hI hr (g_p hm).1 (g_p hm).2 dX12_atEase_39
    · have hm := g_t c6 hm
      refine lv_iconst (v := (-1 : Int32)) hx hb dX12_atEase_21 (by decide) ?_
      exact rI X hI hr (g_p hm).1 (g_p hm).2 dX12_atEase_22
abbrev rmX12_law : Room := { frames := 3, cells := 0, slots := 0, locals := 73 }
abbrev cwX12_law : Cond := .code yX12_law cX12_law 4 (some .long)
theorem cmX12_law : cwX12_law ∈ BIG := (tb7 (List.mem_of_getElem? (i := 196) rfl) rfl)
def fX12_law_57 (N : Nat) (x1 : Int32) (x3 : Int32) (y0 : Int32) (y1 : Int32) (m : Mem) : Option (Int64 × Mem) := (fX12_calls y1 y0 x3 (0 : Int32) m).bind (fun q11 => (fX12_goes N x1 q11).bind (fun q13 => if q13.1 = 0 then (some ((-9223372036854775808 : Int64), q13.2)) else (some ((q13.2.2.1 122 0), q13.2))))
set_option maxHeartbeats 4000000 in
set_option maxRecDepth 100000 in
theorem tX12_law_57 (N : Nat) {l : Launch} {D : va_G} {ca : Nat → ClassId} {ad : Nat → Nat} {p : Program} {e : Env} {s : State} {mm : MethodId} {args : Array Value} {below : List Frame} {meth : Method} {c : Code}  (hn : HNr ca) (X : CX p s mm args meth c cX12_law 4 RX12 D ca ad (WA ca ad s.heap.size)) (hr : meth.sig.returnType = (some .long)) (fin : (Int64 × Mem))  : ∀ (x1 : Int32) (x3 : Int32) (y0 : Int32) (y1 : Int32) (m : Mem) (H : Heap) (locs : List Loc) (ls : Array Slot), IW D ca ad (WA ca ad s.heap.size) s m H locs → lv_has ls 4 [(0, .ref (ad 99)), (1, .int x1), (3, .int x3)] → fX12_law_57 N x1 x3 y0 y1 m = some fin → W p l e rmX12_law s mm args below meth c H locs 0 0 (MQ below (QL D ca ad s.heap.size fin.1 fin.2) args s 0 0 (WA ca ad s.heap.size)) (F0 mm 57 ls [.int y0, .int y1, .ref (ad 99)]) := by
  have hx := X.1
  have hb := X.2.1
  intro x1 x3 y0 y1 m H locs ls hI hl hm
  have hm : ((fX12_calls y1 y0 x3 (0 : Int32) m).bind (fun q11 => (fX12_goes N x1 q11).bind (fun q13 => if q13.1 = 0 then (some ((-9223372036854775808 : Int64), q13.2)) else (some ((q13.2.2.1 122 0), q13.2))))) = some fin := hm
  refine lv_iload_n hx hb dX12_law_57 rfl (lv_at hl 2 rfl) ?_
  refine lv_iconst (v := (0 : Int32)) hx hb dX12_law_58 (by decide) ?_
  obtain ⟨q11, h12, hm⟩ := g_b hm
  refine backV X hI (runV X hI (ctX12_calls y1 y0 x3 (0 : Int32)  hn _ _ h12 _) mdX12_356 (la_99 hn) rfl ⟨rfl, rfl⟩ ⟨Nat.le_of_ble_eq_true rfl, Nat.le_of_ble_eq_true rfl⟩ rfl hl.1 rfl (Nat.le_of_ble_eq_true rfl) dX12_law_59) (fun H locs hI => ?_)
  refine lv_aload_n hx hb dX12_law_62 rfl (lv_at hl 0 rfl) ?_
  refine lv_iload_n hx hb dX12_law_63 rfl (lv_at hl 1 rfl) ?_
  obtain ⟨q13, h14, hm⟩ := g_b hm
  refine backI X hI (runV X hI (ctX12_goes N x1  hn _ _ h14 _) mdX12_346 (la_99 hn) rfl ⟨rfl, rfl⟩ ⟨Nat.le_of_ble_eq_true rfl, Nat.le_of_ble_eq_true rfl⟩ rfl hl.1 rfl (Nat.le_of_ble_eq_true rfl) dX12_law_64) (fun H locs hI => ?_)
  refine lv_if_eq (tgt := 79) hx hb dX12_law_67 (by decide) (fun c15 => ?_) (fun c15 => ?_)
  · have hm := g_t c15 hm
    refine lv_ldc2 hx hb X.2.2.2.1 (X.2.2.2.2.1 _ kcX12_424) dX12_law_79 ?_
    exact rL X hI hr (g_p hm).1 (g_p hm).2 dX12_law_82
  · have hm := g_f c15 hm
    refine lv_aload_n hx hb dX12_law_70 rfl (lv_at hl 0 rfl) ?_
    refine gR X hI fdX12_81 (la_99 hn) rf12_37 dX12_law_71 ?_
    refine lv_iconst (v := (0 : Int32)) hx hb dX12_law_74 (by decide) ?_
    refine aLc (j := 0) X hI (la_122 hn) (by decide) (by decide) dX12_law_75 ?_
    refine lv_goto (tgt := 82) hx hb dX12_law_76 (by decide) ?_
    exact rL X hI hr (g_p hm).1 (g_p hm).2 dX12_law_82
def fX12_law_46 (N : Nat) (x1 : Int32) (x2 : Int32) (x3 : Int32) (m : Mem) : Option (Int64 × Mem) := if x1 = 0 then (fX12_law_57 N x1 x3 (-1 : Int32) (0 : Int32) m) else (fX12_law_57 N x1 x3 x2 (0 : Int32) m)
set_option maxHeartbeats 4000000 in
set_option maxRecDepth 100000 in
theorem tX12_law_46 (N : Nat) {l : Launch} {D : va_G} {ca : Nat → ClassId} {ad : Nat → Nat} {p : Program} {e : Env} {s : State} {mm : MethodId} {args : Array Value} {below : List Frame} {meth : Method} {c : Code}  (hn : HNr ca) (X : CX p s mm args meth c cX12_law 4 RX12 D ca ad (WA ca ad s.heap.size)) (hr : meth.sig.returnType = (some .long)) (fin : (Int64 × Mem))  : ∀ (x1 : Int32) (x2 : Int32) (x3 : Int32) (m : Mem) (H : Heap) (locs : List Loc) (ls : Array Slot), IW D ca ad (WA ca ad s.heap.size) s m H locs → lv_has ls 4 [(0, .ref (ad 99)), (1, .int x1), (2, .int x2), (3, .int x3)] → fX12_law_46 N x1 x2 x3 m = some fin → W p l e rmX12_law s mm args below meth c H locs 0 0 (MQ below (QL D ca ad s.heap.size fin.1 fin.2) args s 0 0 (WA ca ad s.heap.size)) (F0 mm 46 ls []) := by
  have hx := X.1
  have hb := X.2.1
  intro x1 x2 x3 m H locs ls hI hl hm
  have hm : (if x1 = 0 then (fX12_law_57 N x1 x3 (-1 : Int32) (0 : Int32) m) else (fX12_law_57 N x1 x3 x2 (0 : Int32) m)) = some fin := hm
  refine lv_aload_n hx hb dX12_law_46 rfl (lv_at hl 0 rfl) ?_
  refine lv_iconst (v := (0 : Int32)) hx hb dX12_law_47 (by decide) ?_
  refine lv_iload_n hx hb dX12_law_48 rfl (lv_at hl 1 rfl) ?_
  refine lv_if_ne (tgt := 56) hx hb dX12_law_49 (by decide) (fun c10 => ?_) (fun c10 => ?_)
  · have hm := g_f c10 hm
    refine lv_iload_n hx hb dX12_law_56 rfl (lv_at hl 2 rfl) ?_
    exact tX12_law_57 N hn X hr fin  x1 x3 x2 (0 : Int32) m H locs ls hI (lv_sub hl [0, 1, 3] rfl) hm
  · have hm := g_t c10 hm
    refine lv_iconst (v := (-1 : Int32)) hx hb dX12_law_52 (by decide) ?_
    refine lv_goto (tgt := 57) hx hb dX12_law_53 (by decide) ?_
    exact tX12_law_57 N hn X hr fin  x1 x3 (-1 : Int32) (0 : Int32) m H locs ls hI (lv_sub hl [0, 1, 3] rfl) hm
def fX12_law (N : Nat) (x1 : Int32) (x2 : Int32) (x3 : Int32) (m : Mem) : Option (Int64 × Mem) := if x1 < 0 then (some ((-9223372036854775808 : Int64), (mI m 99 0 (0 : Int32)))) else (if (2 : Int32) < x1 then (some ((-9223372036854775808 : Int64), (mI m 99 0 (0 : Int32)))) else ((fX12_hasLaw x1 (mI m 99 0 (0 : Int32))).bind (fun q3 => if q3 = 0 then (some ((-9223372036854775808 : Int64), (mI m 99 0 (0 : Int32)))) else ((fX12_isTub x3 (mI m 99 0 (0 : Int32))).bind (fun q6 => if q6 = 0 then (some ((-9223372036854775808 : Int64), (mI m 99 0 (0 : Int32)))) else (if x1 = 0 then (fX12_law_46 N x1 x2 x3 (mI m 99 0 (0 : Int32))) else ((fX12_isKnight x2 (mI m 99 0 (0 : Int32))).bind (fun q16 => if q16 = 0 then (some ((-9223372036854775808 : Int64), (mI m 99 0 (0 : Int32)))) else (fX12_law_46 N x1 x2 x3 (mI m 99 0 (0 : Int32)))))))))))
set_option maxHeartbeats 4000000 in
set_option maxRecDepth 100000 in
theorem ctX12_law {l : Launch} {D : va_G} {ca : Nat → ClassId} {ad : Nat → Nat} (N : Nat) (x1 : Int32) (x2 : Int32) (x3 : Int32)  (hn : HNr ca) (m : Mem) (fin : (Int64 × Mem)) (hm : fX12_law N x1 x2 x3 m = some fin) : CL l D ca ad yX12_law cwX12_law rmX12_law [.ref (ad 99), .int x1, .int x2, .int x3] m fin.1 fin.2 := by
  refine start (by decide) (Nat.le_of_ble_eq_true rfl) ?_
  intro p e s mm args below meth c H locs ls X hI hr hl
  have X : CX p s mm args meth c cX12_law 4 RX12 D ca ad (WA ca ad s.heap.size) := X
  have hx := X.1
  have hb := X.2.1
  have hl : lv_has ls 4 [(0, .ref (ad 99)), (1, .int x1), (2, .int x2), (3, .int x3)] := hl
  have hm : (if x1 < 0 then (some ((-9223372036854775808 : Int64), (mI m 99 0 (0 : Int32)))) else (if (2 : Int32) < x1 then (some ((-9223372036854775808 : Int64), (mI m 99 0 (0 : Int32)))) else ((fX12_hasLaw x1 (mI m 99 0 (0 : Int32))).bind (fun q3 => if q3 = 0 then (some ((-9223372036854775808 : Int64), (mI m 99 0 (0 : Int32)))) else ((fX12_isTub x3 (mI m 99 0 (0 : Int32))).bind (fun q6 => if q6 = 0 then (some ((-9223372036854775808 : Int64), (mI m 99 0 (0 : Int32)))) else (if x1 = 0 then (fX12_law_46 N x1 x2 x3 (mI m 99 0 (0 : Int32))) else ((fX12_isKnight x2 (mI m 99 0 (0 : Int32))).bind (fun q16 => if q16 = 0 then (some ((-9223372036854775808 : Int64), (mI m 99 0 (0 : Int32)))) else (fX12_law_46 N x1 x2 x3 (mI m 99 0 (0 : Int32)))))))))))) = some fin := hm
  refine lv_aload_n hx hb dX12_law_0 rfl (lv_at hl 0 rfl) ?_
  refine lv_iconst (v := (0 : Int32)) hx hb dX12_law_1 (by decide) ?_
  refine pI X hI fpX12_154 (la_99 hn) dX12_law_2 (fun H locs hI => ?_)
  refine lv_iload_n hx hb dX12_law_5 rfl (lv_at hl 1 rfl) ?_
  refine lv_if_lt (tgt := 42) hx hb dX12_law_6 (by decide) (fun c1 => ?_) (fun c1 => ?_)
  · have hm := g_t c1 hm
    refine lv_ldc2 hx hb X.2.2.2.1 (X.2.2.2.2.1 _ kcX12_424) dX12_law_42 ?_
    exact rL X hI hr (g_p hm).1 (g_p hm).2 dX12_law_45
  · have hm := g_f c1 hm
    refine lv_iload_n hx hb dX12_law_9 rfl (lv_at hl 1 rfl) ?_
    refine lv_iconst (v := (2 : Int32)) hx hb dX12_law_10 (by decide) ?_
    refine lv_icmp_gt (tgt := 42) hx hb dX12_law_11 (by decide) (fun c2 => ?_) (fun c2 => ?_)
    · have hm := g_t c2 hm
      refine lv_ldc2 hx hb X.2.2.2.1 (X.2.2.2.2.1 _ kcX12_424) dX12_law_42 ?_
      exact rL X hI hr (g_p hm).1 (g_p hm).2 dX12_law_45
    · have hm := g_f c2 hm
      refine lv_aload_n hx hb dX12_law_14 rfl (lv_at hl 0 rfl) ?_
      refine lv_iload_n hx hb dX12_law_15 rfl (lv_at hl 1 rfl) ?_
      obtain ⟨q3, h4, hm⟩ := g_b hm
      refine backI X hI (runV X hI (ctX12_hasLaw x1  hn _ _ h4 _) mdX12_343 (la_99 hn) rfl ⟨rfl, rfl⟩ ⟨Nat.le_of_ble_eq_true rfl, Nat.le_of_ble_eq_true rfl⟩ rfl hl.1 rfl (Nat.le_of_ble_eq_true rfl) dX12_law_16) (fun H locs hI => ?_)
      refine lv_if_eq (tgt := 42) hx hb dX12_law_19 (by decide) (fun c5 => ?_) (fun c5 => ?_)
      · have hm := g_t c5 hm
        refine lv_ldc2 hx hb X.2.2.2.1 (X.2.2.2.2.1 _ kcX12_424) dX12_law_42 ?_
        exact rL X hI hr (g_p hm).1 (g_p hm).2 dX12_law_45
      · have hm := g_f c5 hm
        refine lv_aload_n hx hb dX12_law_22 rfl (lv_at hl 0 rfl) ?_
        refine lv_iload_n hx hb dX12_law_23 rfl (lv_at hl 3 rfl) ?_
        obtain ⟨q6, h7, hm⟩ := g_b hm
        refine backI X hI (runV X hI (ctX12_isTub x3  hn _ _ h7 _) mdX12_413 (la_99 hn) rfl ⟨rfl, rfl⟩ ⟨Nat.le_of_ble_eq_true rfl, Nat.le_of_ble_eq_true rfl⟩ rfl hl.1 rfl (Nat.le_of_ble_eq_true rfl) dX12_law_24) (fun H locs hI => ?_)
        refine lv_if_eq (tgt := 42) hx hb dX12_law_27 (by decide) (fun c8 => ?_) (fun c8 => ?_)
        · have hm := g_t c8 hm
          refine lv_ldc2 hx hb X.2.2.2.1 (X.2.2.2.2.1 _ kcX12_424) dX12_law_42 ?_
          exact rL X hI hr (g_p hm).1 (g_p hm).2 dX12_law_45
        · have hm := g_f c8 hm
          refine lv_iload_n hx hb dX12_law_30 rfl (lv_at hl 1 rfl) ?_
          refine lv_if_eq (tgt := 46) hx hb dX12_law_31 (by decide) (fun c9 => ?_) (fun c9 => ?_)
          · have hm := g_t c9 hm
            exact tX12_law_46 N hn X hr fin  x1 x2 x3 (mI m 99 0 (0 : Int32)) H locs ls hI (lv_sub hl [0, 1, 2, 3] rfl) hm
          · have hm := g_f c9 hm
            refine lv_aload_n hx hb dX12_law_34 rfl (lv_at hl 0 rfl) ?_
            refine lv_iload_n hx hb dX12_law_35 rfl (lv_at hl 2 rfl) ?_
            obtain ⟨q16, h17, hm⟩ := g_b hm
            refine backI X hI (runV X hI (ctX12_isKnight x2  hn _ _ h17 _) mdX12_419 (la_99 hn) rfl ⟨rfl, rfl⟩ ⟨Nat.le_of_ble_eq_true rfl, Nat.le_of_ble_eq_true rfl⟩ rfl hl.1 rfl (Nat.le_of_ble_eq_true rfl) dX12_law_36) (fun H locs hI => ?_)
            refine lv_if_ne (tgt := 46) hx hb dX12_law_39 (by decide) (fun c18 => ?_) (fun c18 => ?_)
            · have hm := g_f c18 hm
              exact tX12_law_46 N hn X hr fin  x1 x2 x3 (mI m 99 0 (0 : Int32)) H locs ls hI (lv_sub hl [0, 1, 2, 3] rfl) hm
            · have hm := g_t c18 hm
              refine lv_ldc2 hx hb X.2.2.2.1 (X.2.2.2.2.1 _ kcX12_424) dX12_law_42 ?_
              exact rL X hI hr (g_p hm).1 (g_p hm).2 dX12_law_45
