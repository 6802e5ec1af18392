abbrev rmX11_isDegrees : Room := { frames := 0, cells := 0, slots := 0, locals := 0 }
def fX11_isDegrees  (x0 : Int32) (m : Mem) : Option Int32 := if x0 < 0 then (some (0 : Int32)) else (if (99 : Int32) < x0 then (some (0 : Int32)) else (some (1 : Int32)))
set_option maxHeartbeats 4000000 in
set_option maxRecDepth 100000 in
theorem ctX11_isDegrees {l : Launch} {D : va_G} {ca : Nat → ClassId} {ad : Nat → Nat}  (x0 : Int32)  (hn : HNc ca) (m : Mem) (fin : Int32) (hm : fX11_isDegrees x0 m = some fin) : CI l D ca ad yX11_isDegrees cwX11_isDegrees rmX11_isDegrees [.int x0] m fin m := by
  refine start (by decide) (Nat.le_of_ble_eq_true rfl) ?_
  intro p e s mm args below meth c H locs ls X hI hr hl
  have X : CX p s mm args meth c cX11_isDegrees 1 RX11 D ca ad (WA ca ad s.heap.size) := X
  have hx := X.1
  have hb := X.2.1
  have hl : lv_has ls 1 [(0, .int x0)] := hl
  have hm : (if x0 < 0 then (some (0 : Int32)) else (if (99 : Int32) < x0 then (some (0 : Int32)) else (some (1 : Int32)))) = some fin := hm
  have hpm : m = m := rfl
  refine lv_iload_n hx hb dX11_isDegrees_0 rfl (lv_at hl 0 rfl) ?_
  refine lv_if_lt (tgt := 14) hx hb dX11_isDegrees_1 (by decide) (fun c1 => ?_) (fun c1 => ?_)
  · have hm := g_t c1 hm
    refine lv_iconst (v := (0 : Int32)) hx hb dX11_isDegrees_14 (by decide) ?_
    exact rZ X hI hr (by decide) (g_1 hm) hpm dX11_isDegrees_15
  · have hm := g_f c1 hm
    refine lv_iload_n hx hb dX11_isDegrees_4 rfl (lv_at hl 0 rfl) ?_
    refine lv_bipush (v := (99 : Int32)) hx hb dX11_isDegrees_5 (by decide) ?_
    refine lv_icmp_gt (tgt := 14) hx hb dX11_isDegrees_7 (by decide) (fun c2 => ?_) (fun c2 => ?_)
    · have hm := g_t c2 hm
      refine lv_iconst (v := (0 : Int32)) hx hb dX11_isDegrees_14 (by decide) ?_
      exact rZ X hI hr (by decide) (g_1 hm) hpm dX11_isDegrees_15
    · have hm := g_f c2 hm
      refine lv_iconst (v := (1 : Int32)) hx hb dX11_isDegrees_10 (by decide) ?_
      refine lv_goto (tgt := 15) hx hb dX11_isDegrees_11 (by decide) ?_
      exact rZ X hI hr (by decide) (g_1 hm) hpm dX11_isDegrees_15
abbrev rmX11_cools : Room := { frames := 6, cells := 0, slots := 0, locals := 155 }
abbrev cwX11_cools : Cond := .code yX11_cools cX11_cools 4 (some .int)
theorem cmX11_cools : cwX11_cools ∈ BIG := (tb4 (List.mem_of_getElem? (i := 202) rfl) rfl)
def fX11_cools_26 (N : Nat) : Nat → Int32 → Int32 → Int32 → Mem → Option (Int32 × Mem)
  | 0, _, _, _, _ => none
  | n + 1, x1, x2, x3, m => if (199 : Int32) < x3 then (some ((-2 : Int32), m)) else (if x1 < 0 ∨ 6 ≤ x1.toNatClampNeg then none else (if ((10 : Int32) * x2) < (m.1 55 x1.toNatClampNeg) then (if lay (m.2.2 3) = (0, 6) then ((fX5_pass N (m.2.2 3) 53 m).bind (fun q14 => fX11_cools_26 N n x1 x2 (x3 + (1 : Int32)) q14)) else none) else (some (x3, m))))
set_option maxHeartbeats 4000000 in
set_option maxRecDepth 100000 in
theorem tX11_cools_26 (N : Nat) {l : Launch} {D : va_G} {ca : Nat → ClassId} {ad : Nat → Nat} {p : Program} {e : Env} {s : State} {mm : MethodId} {args : Array Value} {below : List Frame} {meth : Method} {c : Code}  (hn : HNc ca) (X : CX p s mm args meth c cX11_cools 4 RX11 D ca ad (WA ca ad s.heap.size)) (hr : meth.sig.returnType = (some .int)) (fin : (Int32 × Mem))  : ∀ (n : Nat) (x1 : Int32) (x2 : Int32) (x3 : Int32) (m : Mem) (H : Heap) (locs : List Loc) (ls : Array Slot), IW D ca ad (WA ca ad s.heap.size) s m H locs → lv_has ls 4 [(0, .ref (ad 0)), (1, .int x1), (2, .int x2), (3, .int x3)] → fX11_cools_26 N n x1 x2 x3 m = some fin → W p l e rmX11_cools s mm args below meth c H locs 0 0 (MQ below (QI D ca ad s.heap.size fin.1 fin.2) args s 0 0 (WA ca ad s.heap.size)) (F0 mm 26 ls []) := by
  have hx := X.1
  have hb := X.2.1
  intro n
  induction n with
  | zero => intro x1 x2 x3 m H locs ls hI hl hm
            exact absurd hm (by intro q; cases q)
  | succ n ih =>
    intro x1 x2 x3 m H locs ls hI hl hm
    have hm : (if (199 : Int32) < x3 then (some ((-2 : Int32), m)) else (if x1 < 0 ∨ 6 ≤ x1.toNatClampNeg then none else (if ((10 : Int32) * x2) < (m.1 55 x1.toNatClampNeg) then (if lay (m.2.2 3) = (0, 6) then ((fX5_pass N (m.2.2 3) 53 m).bind (fun q14 => fX11_cools_26 N n x1 x2 (x3 + (1 : Int32)) q14)) else none) else (some (x3, m))))) = some fin := hm
    refine lv_iload_n hx hb dX11_cools_26 rfl (lv_at hl 3 rfl) ?_
    refine lv_sipush (v := (199 : Int32)) hx hb dX11_cools_27 (by decide) ?_
    refine lv_icmp_gt (tgt := 72) hx hb dX11_cools_30 (by decide) (fun c10 => ?_) (fun c10 => ?_)
    · have hm := g_t c10 hm
      refine lv_bipush (v := (-2 : Int32)) hx hb dX11_cools_72 (by decide) ?_
      exact rI X hI hr (g_p hm).1 (g_p hm).2 dX11_cools_74
    · have hm := g_f c10 hm
      refine lv_aload_n hx hb dX11_cools_33 rfl (lv_at hl 0 rfl) ?_
      refine gR X hI fdX11_41 (la_0 hn) rf11_6 dX11_cools_34 ?_
      refine gR X hI fdX11_143 (la_53 hn) rf0_1 dX11_cools_37 ?_
      refine lv_iload_n hx hb dX11_cools_40 rfl (lv_at hl 1 rfl) ?_
      obtain ⟨g11, hm⟩ := g_no hm
      refine aI X hI (la_55 hn) g11 dX11_cools_41 ?_
      refine lv_bipush (v := (10 : Int32)) hx hb dX11_cools_42 (by decide) ?_
      refine lv_iload_n hx hb dX11_cools_44 rfl (lv_at hl 2 rfl) ?_
      refine lv_imul hx hb dX11_cools_45 ?_
      refine lv_icmp_gt (tgt := 51) hx hb dX11_cools_46 (by decide) (fun c12 => ?_) (fun c12 => ?_)
      · have hm := g_t c12 hm
        refine lv_aload_n hx hb dX11_cools_51 rfl (lv_at hl 0 rfl) ?_
        refine gR X hI fdX11_50 (la_0 hn) rf11_9 dX11_cools_52 ?_
        refine lv_aload_n hx hb dX11_cools_55 rfl (lv_at hl 0 rfl) ?_
        obtain ⟨g13, hm⟩ := g_is hm
        refine gR X hI fdX11_27 (la_0 hn) rf11_3 dX11_cools_56 ?_
        refine lv_aload_n hx hb dX11_cools_59 rfl (lv_at hl 0 rfl) ?_
        refine gR X hI fdX11_41 (la_0 hn) rf11_6 dX11_cools_60 ?_
        obtain ⟨q14, h15, hm⟩ := g_b hm
        refine backV X hI (runV X hI (ctX5_pass N (m.2.2 3) 53 (lyO hn g13) (la_53 hn) hn _ _ h15 _) mdX11_235 (la_73 hn) rfl ⟨rfl, rfl⟩ ⟨Nat.le_of_ble_eq_true rfl, Nat.le_of_ble_eq_true rfl⟩ rfl hl.1 rfl (Nat.le_of_ble_eq_true rfl) dX11_cools_63) (fun H locs hI => ?_)
        refine lv_iinc (v := (x3 + (1 : Int32))) (lv' := [(3, .int (x3 + (1 : Int32))), (0, .ref (ad 0)), (1, .int x1), (2, .int x2)]) hx hb dX11_cools_66 hl (k := 3) rfl rfl (by decide) rfl (fun ls hl => ?_)
        refine lv_goto (tgt := 26) hx hb dX11_cools_69 (by decide) ?_
        exact ih x1 x2 (x3 + (1 : Int32)) q14 H locs ls hI (lv_sub hl [1, 2, 3, 0] rfl) hm
      · have hm := g_f c12 hm
        refine lv_iload_n hx hb dX11_cools_49 rfl (lv_at hl 3 rfl) ?_
        exact rI X hI hr (g_p hm).1 (g_p hm).2 dX11_cools_50
def fX11_cools (N : Nat) (x1 : Int32) (x2 : Int32) (m : Mem) : Option (Int32 × Mem) := if lay (m.2.2 3) = (0, 6) then ((fX6_hasTub (m.2.2 3) x1 m).bind (fun q2 => if q2 = 0 then (some ((-1 : Int32), m)) else ((fX11_isDegrees x2 m).bind (fun q5 => if q5 = 0 then (some ((-1 : Int32), m)) else ((fX11_tryAsItGoes  m).bind (fun q8 => fX11_cools_26 N N x1 x2 (0 : Int32) q8)))))) else none
set_option maxHeartbeats 4000000 in
set_option maxRecDepth 100000 in
theorem ctX11_cools {l : Launch} {D : va_G} {ca : Nat → ClassId} {ad : Nat → Nat} (N : Nat) (x1 : Int32) (x2 : Int32)  (hn : HNc ca) (m : Mem) (fin : (Int32 × Mem)) (hm : fX11_cools N x1 x2 m = some fin) : CI l D ca ad yX11_cools cwX11_cools rmX11_cools [.ref (ad 0), .int x1, .int x2] m fin.1 fin.2 := by
  refine start (by decide) (Nat.le_of_ble_eq_true rfl) ?_
  intro p e s mm args below meth c H locs ls X hI hr hl
  have X : CX p s mm args meth c cX11_cools 4 RX11 D ca ad (WA ca ad s.heap.size) := X
  have hx := X.1
  have hb := X.2.1
  have hl : lv_has ls 4 [(0, .ref (ad 0)), (1, .int x1), (2, .int x2)] := hl
  have hm : (if lay (m.2.2 3) = (0, 6) then ((fX6_hasTub (m.2.2 3) x1 m).bind (fun q2 => if q2 = 0 then (some ((-1 : Int32), m)) else ((fX11_isDegrees x2 m).bind (fun q5 => if q5 = 0 then (some ((-1 : Int32), m)) else ((fX11_tryAsItGoes  m).bind (fun q8 => fX11_cools_26 N N x1 x2 (0 : Int32) q8)))))) else none) = some fin := hm
  refine lv_aload_n hx hb dX11_cools_0 rfl (lv_at hl 0 rfl) ?_
  obtain ⟨g1, hm⟩ := g_is hm
  refine gR X hI fdX11_27 (la_0 hn) rf11_3 dX11_cools_1 ?_
  refine lv_iload_n hx hb dX11_cools_4 rfl (lv_at hl 1 rfl) ?_
  obtain ⟨q2, h3, hm⟩ := g_b hm
  refine backI X hI (runV X hI (ctX6_hasTub (m.2.2 3) x1 (lyO hn g1) hn _ _ h3 _) mdX11_128 (lyO hn g1) rfl ⟨rfl, rfl⟩ ⟨Nat.le_of_ble_eq_true rfl, Nat.le_of_ble_eq_true rfl⟩ rfl hl.1 rfl (Nat.le_of_ble_eq_true rfl) dX11_cools_5) (fun H locs hI => ?_)
  refine lv_if_eq (tgt := 18) hx hb dX11_cools_8 (by decide) (fun c4 => ?_) (fun c4 => ?_)
  · have hm := g_t c4 hm
    refine lv_iconst (v := (-1 : Int32)) hx hb dX11_cools_18 (by decide) ?_
    exact rI X hI hr (g_p hm).1 (g_p hm).2 dX11_cools_19
  · have hm := g_f c4 hm
    refine lv_iload_n hx hb dX11_cools_11 rfl (lv_at hl 2 rfl) ?_
    obtain ⟨q5, h6, hm⟩ := g_b hm
    refine backI X hI (runS X hI (ctX11_isDegrees x2  hn _ _ h6 _) msX11_232 ⟨rfl, rfl⟩ ⟨Nat.le_of_ble_eq_true rfl, Nat.le_of_ble_eq_true rfl⟩ rfl hl.1 rfl (Nat.le_of_ble_eq_true rfl) dX11_cools_12) (fun H locs hI => ?_)
    refine lv_if_ne (tgt := 20) hx hb dX11_cools_15 (by decide) (fun c7 => ?_) (fun c7 => ?_)
    · have hm := g_f c7 hm
      refine lv_aload_n hx hb dX11_cools_20 rfl (lv_at hl 0 rfl) ?_
      obtain ⟨q8, h9, hm⟩ := g_b hm
      refine backV X hI (runV X hI (ctX11_tryAsItGoes   hn _ _ h9 _) mdX11_219 (la_0 hn) rfl ⟨rfl, rfl⟩ ⟨Nat.le_of_ble_eq_true rfl, Nat.le_of_ble_eq_true rfl⟩ rfl hl.1 rfl (Nat.le_of_ble_eq_true rfl) dX11_cools_21) (fun H locs hI => ?_)
      refine lv_iconst (v := (0 : Int32)) hx hb dX11_cools_24 (by decide) ?_
      refine lv_istore_n (lv' := [(3, .int (0 : Int32)), (0, .ref (ad 0)), (1, .int x1), (2, .int x2)]) hx hb dX11_cools_25 rfl hl (by decide) rfl (fun ls hl => ?_)
      exact tX11_cools_26 N hn X hr fin  N x1 x2 (0 : Int32) q8 H locs ls hI (lv_sub hl [1, 2, 3, 0] rfl) hm
    · have hm := g_t c7 hm
      refine lv_iconst (v := (-1 : Int32)) hx hb dX11_cools_18 (by decide) ?_
      exact rI X hI hr (g_p hm).1 (g_p hm).2 dX11_cools_19
abbrev rmX11_flinches : Room := { frames := 6, cells := 0, slots := 0, locals := 155 }
abbrev cwX11_flinches : Cond := .code yX11_flinches cX11_flinches 3 (some .int)
theorem cmX11_flinches : cwX11_flinches ∈ BIG := (tb4 (List.mem_of_getElem? (i := 210) rfl) rfl)
def fX11_flinches_19 (N : Nat) : Nat → Int32 → Int32 → Mem → Option (Int32 × Mem)
  | 0, _, _, _ => none
  | n + 1, x1, x2, m => if (199 : Int32) < x2 then (some ((-2 : Int32), m)) else (if lay (m.2.2 3) = (0, 6) then ((fX5_pass N (m.2.2 3) 53 m).bind (fun q9 => if x1 < 0 ∨ 6 ≤ x1.toNatClampNeg then none else (if x1 < 0 ∨ 6 ≤ x1.toNatClampNeg then none else (if (q9.1 62 x1.toNatClampNeg) ≤ (q9.1 52 x1.toNatClampNeg) then (fX11_flinches_19 N n x1 (x2 + (1 : Int32)) q9) else (some (x2, q9)))))) else none)
set_option maxHeartbeats 4000000 in
set_option maxRecDepth 100000 in
theorem tX11_flinches_19 (N : Nat) {l : Launch} {D : va_G} {ca : Nat → ClassId} {ad : Nat → Nat} {p : Program} {e : Env} {s : State} {mm : MethodId} {args : Array Value} {below : List Frame} {meth : Method} {c : Code}  (hn : HNc ca) (X : CX p s mm args meth c cX11_flinches 3 RX11 D ca ad (WA ca ad s.heap.size)) (hr : meth.sig.returnType = (some .int)) (fin : (Int32 × Mem))  : ∀ (n : Nat) (x1 : Int32) (x2 : Int32) (m : Mem) (H : Heap) (locs : List Loc) (ls : Array Slot), IW D ca ad (WA ca ad s.heap.size) s m H locs → lv_has ls 3 [(0, .ref (ad 0)), (1, .int x1), (2, .int x2)] → fX11_flinches_19 N n x1 x2 m = some fin → W p l e rmX11_flinches s mm args below meth c H locs 0 0 (MQ below (QI D ca ad s.heap.size fin.1 fin.2) args s 0 0 (WA ca ad s.heap.size)) (F0 mm 19 ls []) := by
  have hx := X.1
  have hb := X.2.1
  intro n
  induction n with
  | zero => intro x1 x2 m H locs ls hI hl hm
            exact absurd hm (by intro q; cases q)
  | succ n ih =>
    intro x1 x2 m H locs ls hI hl hm
    have hm : (if (199 : Int32) < x2 then (some ((-2 : Int32), m)) else (if lay (m.2.2 3) = (0, 6) then ((fX5_pass N (m.2.2 3) 53 m).bind (fun q9 => if x1 < 0 ∨ 6 ≤ x1.toNatClampNeg then none else (if x1 < 0 ∨ 6 ≤ x1.toNatClampNeg then none else (if (q9.1 62 x1.toNatClampNeg) ≤ (q9.1 52 x1.toNatClampNeg) then (fX11_flinches_19 N n x1 (x2 + (1 : Int32)) q9) else (some (x2, q9)))))) else none)) = some fin := hm
    refine lv_iload_n hx hb dX11_flinches_19 rfl (lv_at hl 2 rfl) ?_
    refine lv_sipush (v := (199 : Int32)) hx hb dX11_flinches_20 (by decide) ?_
    refine lv_icmp_gt (tgt := 70) hx hb dX11_flinches_23 (by decide) (fun c7 => ?_) (fun c7 => ?_)
    · have hm := g_t c7 hm
      refine lv_bipush (v := (-2 : Int32)) hx hb dX11_flinches_70 (by decide) ?_
      exact rI X hI hr (g_p hm).1 (g_p hm).2 dX11_flinches_72
    · have hm := g_f c7 hm
      refine lv_aload_n hx hb dX11_flinches_26 rfl (lv_at hl 0 rfl) ?_
      refine gR X hI fdX11_50 (la_0 hn) rf11_9 dX11_flinches_27 ?_
      refine lv_aload_n hx hb dX11_flinches_30 rfl (lv_at hl 0 rfl) ?_
      obtain ⟨g8, hm⟩ := g_is hm
      refine gR X hI fdX11_27 (la_0 hn) rf11_3 dX11_flinches_31 ?_
      refine lv_aload_n hx hb dX11_flinches_34 rfl (lv_at hl 0 rfl) ?_
      refine gR X hI fdX11_41 (la_0 hn) rf11_6 dX11_flinches_35 ?_
      obtain ⟨q9, h10, hm⟩ := g_b hm
      refine backV X hI (runV X hI (ctX5_pass N (m.2.2 3) 53 (lyO hn g8) (la_53 hn) hn _ _ h10 _) mdX11_235 (la_73 hn) rfl ⟨rfl, rfl⟩ ⟨Nat.le_of_ble_eq_true rfl, Nat.le_of_ble_eq_true rfl⟩ rfl hl.1 rfl (Nat.le_of_ble_eq_true rfl) dX11_flinches_38) (fun H locs hI => ?_)
      refine lv_aload_n hx hb dX11_flinches_41 rfl (lv_at hl 0 rfl) ?_
      refine gR X hI fdX11_41 (la_0 hn) rf11_6 dX11_flinches_42 ?_
      refine gR X hI fdX11_175 (la_53 hn) rf0_8 dX11_flinches_45 ?_
      refine lv_iload_n hx hb dX11_flinches_48 rfl (lv_at hl 1 rfl) ?_
      obtain ⟨g11, hm⟩ := g_no hm
      refine aI X hI (la_62 hn) g11 dX11_flinches_49 ?_
      refine lv_aload_n hx hb dX11_flinches_50 rfl (lv_at hl 0 rfl) ?_
      refine gR X hI fdX11_37 (la_0 hn) rf11_5 dX11_flinches_51 ?_
      refine gR X hI fdX11_175 (la_43 hn) rf0_8 dX11_flinches_54 ?_
      refine lv_iload_n hx hb dX11_flinches_57 rfl (lv_at hl 1 rfl) ?_
      obtain ⟨g12, hm⟩ := g_no hm
      refine aI X hI (la_52 hn) g12 dX11_flinches_58 ?_
      refine lv_icmp_le (tgt := 64) hx hb dX11_flinches_59 (by decide) (fun c13 => ?_) (fun c13 => ?_)
      · have hm := g_t c13 hm
        refine lv_iinc (v := (x2 + (1 : Int32))) (lv' := [(2, .int (x2 + (1 : Int32))), (0, .ref (ad 0)), (1, .int x1)]) hx hb dX11_flinches_64 hl (k := 2) rfl rfl (by decide) rfl (fun ls hl => ?_)
        refine lv_goto (tgt := 19) hx hb dX11_flinches_67 (by decide) ?_
        exact ih x1 (x2 + (1 : Int32)) q9 H locs ls hI (lv_sub hl [1, 2, 0] rfl) hm
      · have hm := g_f c13 hm
        refine lv_iload_n hx hb dX11_flinches_62 rfl (lv_at hl 2 rfl) ?_
        exact rI X hI hr (g_p hm).1 (g_p hm).2 dX11_flinches_63
def fX11_flinches (N : Nat) (x1 : Int32) (m : Mem) : Option (Int32 × Mem) := if lay (m.2.2 3) = (0, 6) then ((fX6_hasKnight (m.2.2 3) x1 m).bind (fun q2 => if q2 = 0 then (some ((-1 : Int32), m)) else ((fX11_tryAsItGoes  m).bind (fun q5 => fX11_flinches_19 N N x1 (1 : Int32) q5)))) else none
set_option maxHeartbeats 4000000 in
set_option maxRecDepth 100000 in
theorem ctX11_flinches {l : Launch} {D : va_G} {ca : Nat → ClassId} {ad : Nat → Nat} (N : Nat) (x1 : Int32)  (hn : HNc ca) (m : Mem) (fin : (Int32 × Mem)) (hm : fX11_flinches N x1 m = some fin) : CI l D ca ad yX11_flinches cwX11_flinches rmX11_flinches [.ref (ad 0), .int x1] m fin.1 fin.2 := by
  refine start (by decide) (Nat.le_of_ble_eq_true rfl) ?_
  intro p e s mm args below meth c H locs ls X hI hr hl
  have X : CX p s mm args meth c cX11_flinches 3 RX11 D ca ad (WA ca ad s.heap.size) := X
  have hx := X.1
  have hb := X.2.1
  have hl : lv_has ls 3 [(0, .ref (ad 0)), (1, .int x1)] := hl
  have hm : (if lay (m.2.2 3) = (0, 6) then ((fX6_hasKnight (m.2.2 3) x1 m).bind (fun q2 => if q2 = 0 then (some ((-1 : Int32), m)) else ((fX11_tryAsItGoes  m).bind (fun q5 => fX11_flinches_19 N N x1 (1 : Int32) q5)))) else none) = some fin := hm
  refine lv_aload_n hx hb dX11_flinches_0 rfl (lv_at hl 0 rfl) ?_
  obtain ⟨g1, hm⟩ := g_is hm
  refine gR X hI fdX11_27 (la_0 hn) rf11_3 dX11_flinches_1 ?_
  refine lv_iload_n hx hb dX11_flinches_4 rfl (lv_at hl 1 rfl) ?_
  obtain ⟨q2, h3, hm⟩ := g_b hm
  refine backI X hI (runV X hI (ctX6_hasKnight (m.2.2 3) x1 (lyO hn g1) hn _ _ h3 _) mdX11_154 (lyO hn g1) rfl ⟨rfl, rfl⟩ ⟨Nat.le_of_ble_eq_true rfl, Nat.le_of_ble_eq_true rfl⟩ rfl hl.1 rfl (Nat.le_of_ble_eq_true rfl) dX11_flinches_5) (fun H locs hI => ?_)
  refine lv_if_ne (tgt := 13) hx hb dX11_flinches_8 (by decide) (fun c4 => ?_) (fun c4 => ?_)
  · have hm := g_f c4 hm
    refine lv_aload_n hx hb dX11_flinches_13 rfl (lv_at hl 0 rfl) ?_
    obtain ⟨q5, h6, hm⟩ := g_b hm
    refine backV X hI (runV X hI (ctX11_tryAsItGoes   hn _ _ h6 _) mdX11_219 (la_0 hn) rfl ⟨rfl, rfl⟩ ⟨Nat.le_of_ble_eq_true rfl, Nat.le_of_ble_eq_true rfl⟩ rfl hl.1 rfl (Nat.le_of_ble_eq_true rfl) dX11_flinches_14) (fun H locs hI => ?_)
    refine lv_iconst (v := (1 : Int32)) hx hb dX11_flinches_17 (by decide) ?_
    refine lv_istore_n (lv' := [(2, .int (1 : Int32)), (0, .ref (ad 0)), (1, .int x1)]) hx hb dX11_flinches_18 rfl hl (by decide) rfl (fun ls hl => ?_)
    exact tX11_flinches_19 N hn X hr fin  N x1 (1 : Int32) q5 H locs ls hI (lv_sub hl [1, 2, 0] rfl) hm
  · have hm := g_t c4 hm
    refine lv_iconst (v := (-1 : Int32)) hx hb dX11_flinches_11 (by decide) ?_
    exact rI X hI hr (g_p hm).1 (g_p hm).2 dX11_flinches_12
abbrev rmX11_standsAhead : Room := { frames := 0, cells := 0, slots := 0, locals := 0 }
def fX11_standsAhead  (x1 : Int32) (x2 : Int32) (m : Mem) : Option Int32 := if x1 < 0 ∨ 6 ≤ x1.toNatClampNeg then none else (if x2 < 0 ∨ 6 ≤ x2.toNatClampNeg then none else (if (m.1 50 x1.toNatClampNeg) = (m.1 50 x2.toNatClampNeg) then (if x1 < 0 ∨ 6 ≤ x1.toNatClampNeg then none else (if x2 < 0 ∨ 6 ≤ x2.toNatClampNeg then none else (if (m.1 49 x1.toNatClampNeg) = (m.1 49 x2.toNatClampNeg) then (if x2 ≤ x1 then (some (0 : Int32)) else (some (1 : Int32))) else (if x1 < 0 ∨ 6 ≤ x1.toNatClampNeg then none else (if x2 < 0 ∨ 6 ≤ x2.toNatClampNeg then none else (if (m.1 49 x1.toNatClampNeg) ≤ (m.1 49 x2.toNatClampNeg) then (some (0 : Int32)) else (some (1 : Int32)))))))) else (if x1 < 0 ∨ 6 ≤ x1.toNatClampNeg then none else (if x2 < 0 ∨ 6 ≤ x2.toNatClampNeg then none else (if (m.1 50 x1.toNatClampNeg) ≤ (m.1 50 x2.toNatClampNeg) then (some (0 : Int32)) else (some (1 : Int32)))))))
set_option maxHeartbeats 4000000 in
set_option maxRecDepth 100000 in
theorem ctX11_standsAhead {l : Launch} {D : va_G} {ca : Nat → ClassId} {ad : Nat → Nat}  (x1 : Int32) (x2 : Int32)  (hn : HNc ca) (m : Mem) (fin : Int32) (hm : fX11_standsAhead x1 x2 m = some fin) : CI l D ca ad yX11_standsAhead cwX11_standsAhead rmX11_standsAhead [.ref (ad 0), .int x1, .int x2] m fin m := by
  refine start (by decide) (Nat.le_of_ble_eq_true rfl) ?_
  intro p e s mm args below meth c H locs ls X hI hr hl
  have X : CX p s mm args meth c cX11_standsAhead 3 RX11 D ca ad (WA ca ad s.heap.size) := X
  have hx := X.1
  have hb := X.2.1
  have hl : lv_has ls 3 [(0, .ref (ad 0)), (1, .int x1), (2, .int x2)] := hl
  have hm : (if x1 < 0 ∨ 6 ≤ x1.toNatClampNeg then none else (if x2 < 0 ∨ 6 ≤ x2.toNatClampNeg then none else (if (m.1 50 x1.toNatClampNeg) = (m.1 50 x2.toNatClampNeg) then (if x1 < 0 ∨ 6 ≤ x1.toNatClampNeg then none else (if x2 < 0 ∨ 6 ≤ x2.toNatClampNeg then none else (if (m.1 49 x1.toNatClampNeg) = (m.1 49 x2.toNatClampNeg) then (if x2 ≤ x1 then (some (0 : Int32)) else (some (1 : Int32))) else (if x1 < 0 ∨ 6 ≤ x1.toNatClampNeg then none else (if x2 < 0 ∨ 6 ≤ x2.toNatClampNeg then none else (if (m.1 49 x1.toNatClampNeg) ≤ (m.1 49 x2.toNatClampNeg) then (some (0 : Int32)) else (some (1 : Int32)))))))) else (if x1 < 0 ∨ 6 ≤ x1.toNatClampNeg then none else (if x2 < 0 ∨ 6 ≤ x2.toNatClampNeg then none else (if (m.1 50 x1.toNatClampNeg) ≤ (m.1 50 x2.toNatClampNeg) then (some (0 : Int32)) else (some (1 : Int32)))))))) = some fin := hm
  have hpm : m = m := rfl
  refine lv_aload_n hx hb dX11_standsAhead_0 rfl (lv_at hl 0 rfl) ?_
  refine gR X hI fdX11_37 (la_0 hn) rf11_5 dX11_standsAhead_1 ?_
  refine gR X hI fdX11_169 (la_43 hn) rf0_6 dX11_standsAhead_4 ?_
  refine lv_iload_n hx hb dX11_standsAhead_7 rfl (lv_at hl 1 rfl) ?_
  obtain ⟨g1, hm⟩ := g_no hm
  refine aI X hI (la_50 hn) g1 dX11_standsAhead_8 ?_
  refine lv_aload_n hx hb dX11_standsAhead_9 rfl (lv_at hl 0 rfl) ?_
  refine gR X hI fdX11_37 (la_0 hn) rf11_5 dX11_standsAhead_10 ?_
  refine gR X hI fdX11_169 (la_43 hn) rf0_6 dX11_standsAhead_13 ?_
  refine lv_iload_n hx hb dX11_standsAhead_16 rfl (lv_at hl 2 rfl) ?_
  obtain ⟨g2, hm⟩ := g_no hm
  refine aI X hI (la_50 hn) g2 dX11_standsAhead_17 ?_
  refine lv_icmp_eq (tgt := 48) hx hb dX11_standsAhead_18 (by decide) (fun c3 => ?_) (fun c3 => ?_)
  · have hm := g_t c3 hm
    refine lv_aload_n hx hb dX11_standsAhead_48 rfl (lv_at hl 0 rfl) ?_
    refine gR X hI fdX11_37 (la_0 hn) rf11_5 dX11_standsAhead_49 ?_
    refine gR X hI fdX11_166 (la_43 hn) rf0_5 dX11_standsAhead_52 ?_
    refine lv_iload_n hx hb dX11_standsAhead_55 rfl (lv_at hl 1 rfl) ?_
    obtain ⟨g4, hm⟩ := g_no hm
    refine aI X hI (la_49 hn) g4 dX11_standsAhead_56 ?_
    refine lv_aload_n hx hb dX11_standsAhead_57 rfl (lv_at hl 0 rfl) ?_
    refine gR X hI fdX11_37 (la_0 hn) rf11_5 dX11_standsAhead_58 ?_
    refine gR X hI fdX11_166 (la_43 hn) rf0_5 dX11_standsAhead_61 ?_
    refine lv_iload_n hx hb dX11_standsAhead_64 rfl (lv_at hl 2 rfl) ?_
    obtain ⟨g5, hm⟩ := g_no hm
    refine aI X hI (la_49 hn) g5 dX11_standsAhead_65 ?_
    refine lv_icmp_eq (tgt := 96) hx hb dX11_standsAhead_66 (by decide) (fun c6 => ?_) (fun c6 => ?_)
    · have hm := g_t c6 hm
      refine lv_iload_n hx hb dX11_standsAhead_96 rfl (lv_at hl 1 rfl) ?_
      refine lv_iload_n hx hb dX11_standsAhead_97 rfl (lv_at hl 2 rfl) ?_
      refine lv_icmp_ge (tgt := 105) hx hb dX11_standsAhead_98 (by decide) (fun c7 => ?_) (fun c7 => ?_)
      · have hm := g_t c7 hm
        refine lv_iconst (v := (0 : Int32)) hx hb dX11_standsAhead_105 (by decide) ?_
        exact rZ X hI hr (by decide) (g_1 hm) hpm dX11_standsAhead_106
      · have hm := g_f c7 hm
        refine lv_iconst (v := (1 : Int32)) hx hb dX11_standsAhead_101 (by decide) ?_
        refine lv_goto (tgt := 106) hx hb dX11_standsAhead_102 (by decide) ?_
        exact rZ X hI hr (by decide) (g_1 hm) hpm dX11_standsAhead_106
    · have hm := g_f c6 hm
      refine lv_aload_n hx hb dX11_standsAhead_69 rfl (lv_at hl 0 rfl) ?_
      refine gR X hI fdX11_37 (la_0 hn) rf11_5 dX11_standsAhead_70 ?_
      refine gR X hI fdX11_166 (la_43 hn) rf0_5 dX11_standsAhead_73 ?_
      refine lv_iload_n hx hb dX11_standsAhead_76 rfl (lv_at hl 1 rfl) ?_
      obtain ⟨g8, hm⟩ := g_no hm
      refine aI X hI (la_49 hn) g8 dX11_standsAhead_77 ?_
      refine lv_aload_n hx hb dX11_standsAhead_78 rfl (lv_at hl 0 rfl) ?_
      refine gR X hI fdX11_37 (la_0 hn) rf11_5 dX11_standsAhead_79 ?_
      refine gR X hI fdX11_166 (la_43 hn) rf0_5 dX11_standsAhead_82 ?_
      refine lv_iload_n hx hb dX11_standsAhead_85 rfl (lv_at hl 2 rfl) ?_
      obtain ⟨g9, hm⟩ := g_no hm
      refine aI X hI (la_49 hn) g9 dX11_standsAhead_86 ?_
      refine lv_icmp_le (tgt := 94) hx hb dX11_standsAhead_87 (by decide) (fun c10 => ?_) (fun c10 => ?_)
      · have hm := g_t c10 hm
        refine lv_iconst (v := (0 : Int32)) hx hb dX11_standsAhead_94 (by decide) ?_
        exact rZ X hI hr (by decide) (g_1 hm) hpm dX11_standsAhead_95
      · have hm := g_f c10 hm
        refine lv_iconst (v := (1 : Int32)) hx hb dX11_standsAhead_90 (by decide) ?_
        refine lv_goto (tgt := 95) hx hb dX11_standsAhead_91 (by decide) ?_
        exact rZ X hI hr (by decide) (g_1 hm) hpm dX11_standsAhead_95
  · have hm := g_f c3 hm
    refine lv_aload_n hx hb dX11_standsAhead_21 rfl (lv_at hl 0 rfl) ?_
    refine gR X hI fdX11_37 (la_0 hn) rf11_5 dX11_standsAhead_22 ?_
    refine gR X hI fdX11_169 (la_43 hn) rf0_6 dX11_standsAhead_25 ?_
    refine lv_iload_n hx hb dX11_standsAhead_28 rfl (lv_at hl 1 rfl) ?_
    obtain ⟨g11, hm⟩ := g_no hm
    refine aI X hI (la_50 hn) g11 dX11_standsAhead_29 ?_
    refine lv_aload_n hx hb dX11_standsAhead_30 rfl (lv_at hl 0 rfl) ?_
    refine gR X hI fdX11_37 (la_0 hn) rf11_5 dX11_standsAhead_31 ?_
    refine gR X hI fdX11_169 (la_43 hn) rf0_6 dX11_standsAhead_34 ?_
    refine lv_iload_n hx hb dX11_standsAhead_37 rfl (lv_at hl 2 rfl) ?_
    obtain ⟨g12, hm⟩ := g_no hm
    refine aI X hI (la_50 hn) g12 dX11_standsAhead_38 ?_
    refine lv_icmp_le (tgt := 46) hx hb dX11_standsAhead_39 (by decide) (fun c13 => ?_) (fun c13 => ?_)
    · have hm := g_t c13 hm
      refine lv_iconst (v := (0 : Int32)) hx hb dX11_standsAhead_46 (by decide) ?_
      exact rZ X hI hr (by decide) (g_1 hm) hpm dX11_standsAhead_47
    · have hm := g_f c13 hm
      refine lv_iconst (v := (1 : Int32)) hx hb dX11_standsAhead_42 (by decide) ?_
      refine lv_goto (tgt := 47) hx hb dX11_standsAhead_43 (by decide) ?_
      exact rZ X hI hr (by decide) (g_1 hm) hpm dX11_standsAhead_47
abbrev rmX11_order : Room := { frames := 1, cells := 0, slots := 0, locals := 22 }
abbrev cwX11_order : Cond := .code yX11_order cX11_order 5 (some .int)
theorem cmX11_order : cwX11_order ∈ BIG := (tb4 (List.mem_of_getElem? (i := 214) rfl) rfl)
def fX11_order_74 (N : Nat) (k8 : Int32 → Int32 → Mem → Option Int32) (x1 : Int32) (x2 : Int32) (x3 : Int32) (m : Mem) : Option Int32 := if x3 = x1 then (some x2) else (k8 x1 (x2 + (1 : Int32)) m)
set_option maxHeartbeats 4000000 in
set_option maxRecDepth 100000 in
theorem tX11_order_74 (N : Nat) {l : Launch} {D : va_G} {ca : Nat → ClassId} {ad : Nat → Nat} {p : Program} {e : Env} {s : State} {mm : MethodId} {args : Array Value} {below : List Frame} {meth : Method} {c : Code} {k8 : Int32 → Int32 → Mem → Option Int32} (hn : HNc ca) (X : CX p s mm args meth c cX11_order 5 RX11 D ca ad (WA ca ad s.heap.size)) (hr : meth.sig.returnType = (some .int)) (fin : Int32) (m0 : Mem) (hk8 : ∀ (x1 : Int32) (x2 : Int32) (m : Mem) (H : Heap) (locs : List Loc) (ls : Array Slot), IW D ca ad (WA ca ad s.heap.size) s m H locs → lv_has ls 5 [(0, .ref (ad 0)), (1, .int x1), (2, .int x2)] → k8 x1 x2 m = some fin → m = m0 → W p l e rmX11_order s mm args below meth c H locs 0 0 (MQ below (QI D ca ad s.heap.size fin m0) args s 0 0 (WA ca ad s.heap.size)) (F0 mm 8 ls [])) : ∀ (x1 : Int32) (x2 : Int32) (x3 : Int32) (m : Mem) (H : Heap) (locs : List Loc) (ls : Array Slot), IW D ca ad (WA ca ad s.heap.size) s m H locs → lv_has ls 5 [(0, .ref (ad 0)), (1, .int x1), (2, .int x2), (3, .int x3)] → fX11_order_74 N k8 x1 x2 x3 m = some fin → m = m0 → W p l e rmX11_order s mm args below meth c H locs 0 0 (MQ below (QI D ca ad s.heap.size fin m0) args s 0 0 (WA ca ad s.heap.size)) (F0 mm 74 ls []) := by
  have hx := X.1
  have hb := X.2.1
  intro x1 x2 x3 m H locs ls hI hl hm hpm
  have hm : (if x3 = x1 then (some x2) else (k8 x1 (x2 + (1 : Int32)) m)) = some fin := hm
  refine lv_iload_n hx hb dX11_order_74 rfl (lv_at hl 3 rfl) ?_
  refine lv_iload_n hx hb dX11_order_75 rfl (lv_at hl 1 rfl) ?_
  refine lv_icmp_ne (tgt := 81) hx hb dX11_order_76 (by decide) (fun c5 => ?_) (fun c5 => ?_)
  · have hm := g_f c5 hm
    refine lv_iinc (v := (x2 + (1 : Int32))) (lv' := [(2, .int (x2 + (1 : Int32))), (0, .ref (ad 0)), (1, .int x1), (3, .int x3)]) hx hb dX11_order_81 hl (k := 2) rfl rfl (by decide) rfl (fun ls hl => ?_)
    refine lv_goto (tgt := 8) hx hb dX11_order_84 (by decide) ?_
    exact hk8 x1 (x2 + (1 : Int32)) m H locs ls hI (lv_sub hl [1, 2, 0] rfl) hm hpm
  · have hm := g_t c5 hm
    refine lv_iload_n hx hb dX11_order_79 rfl (lv_at hl 2 rfl) ?_
    exact rI X hI hr (g_1 hm) hpm dX11_order_80
def fX11_order_33 (N : Nat) (k74 : Int32 → Int32 → Int32 → Mem → Option Int32) : Nat → Int32 → Int32 → Int32 → Int32 → Mem → Option Int32
  | 0, _, _, _, _, _ => none
  | n + 1, x1, x2, x3, x4, m => if lay (m.2.2 3) = (0, 6) then (if (m.1 ((m.2.2 3) + 1) 2) ≤ x4 then (k74 x1 x2 x3 m) else (if (6 : Int32) ≤ x4 then (k74 x1 x2 x3 m) else ((fX11_standsAhead x4 x2 m).bind (fun q9 => if q9 = 0 then (fX11_order_33 N k74 n x1 x2 x3 (x4 + (1 : Int32)) m) else (fX11_order_33 N k74 n x1 x2 (x3 + (1 : Int32)) (x4 + (1 : Int32)) m))))) else none
set_option maxHeartbeats 4000000 in
set_option maxRecDepth 100000 in
theorem tX11_order_33 (N : Nat) {l : Launch} {D : va_G} {ca : Nat → ClassId} {ad : Nat → Nat} {p : Program} {e : Env} {s : State} {mm : MethodId} {args : Array Value} {below : List Frame} {meth : Method} {c : Code} {k74 : Int32 → Int32 → Int32 → Mem → Option Int32} (hn : HNc ca) (X : CX p s mm args meth c cX11_order 5 RX11 D ca ad (WA ca ad s.heap.size)) (hr : meth.sig.returnType = (some .int)) (fin : Int32) (m0 : Mem) (hk74 : ∀ (x1 : Int32) (x2 : Int32) (x3 : Int32) (m : Mem) (H : Heap) (locs : List Loc) (ls : Array Slot), IW D ca ad (WA ca ad s.heap.size) s m H locs → lv_has ls 5 [(0, .ref (ad 0)), (1, .int x1), (2, .int x2), (3, .int x3)] → k74 x1 x2 x3 m = some fin → m = m0 → W p l e rmX11_order s mm args below meth c H locs 0 0 (MQ below (QI D ca ad s.heap.size fin m0) args s 0 0 (WA ca ad s.heap.size)) (F0 mm 74 ls [])) : ∀ (n : Nat) (x1 : Int32) (x2 : Int32) (x3 : Int32) (x4 : Int32) (m : Mem) (H : Heap) (locs : List Loc) (ls : Array Slot), IW D ca ad (WA ca ad s.heap.size) s m H locs → lv_has ls 5 [(0, .ref (ad 0)), (1, .int x1), (2, .int x2), (3, .int x3), (4, .int x4)] → fX11_order_33 N k74 n x1 x2 x3 x4 m = some fin → m = m0 → W p l e rmX11_order s mm args below meth c H locs 0 0 (MQ below (QI D ca ad s.heap.size fin m0) args s 0 0 (WA ca ad s.heap.size)) (F0 mm 33 ls []) := by
  have hx := X.1
  have hb := X.2.1
  intro n
  induction n with
  | zero => intro x1 x2 x3 x4 m H locs ls hI hl hm hpm
            exact absurd hm (by intro q; cases q)
  | succ n ih =>
    intro x1 x2 x3 x4 m H locs ls hI hl hm hpm
    have hm : (if lay (m.2.2 3) = (0, 6) then (if (m.1 ((m.2.2 3) + 1) 2) ≤ x4 then (k74 x1 x2 x3 m) else (if (6 : Int32) ≤ x4 then (k74 x1 x2 x3 m) else ((fX11_standsAhead x4 x2 m).bind (fun q9 => if q9 = 0 then (fX11_order_33 N k74 n x1 x2 x3 (x4 + (1 : Int32)) m) else (fX11_order_33 N k74 n x1 x2 (x3 + (1 : Int32)) (x4 + (1 : Int32)) m))))) else none) = some fin := hm
    refine lv_iload hx hb dX11_order_33 (lv_at hl 4 rfl) ?_
    refine lv_aload_n hx hb dX11_order_35 rfl (lv_at hl 0 rfl) ?_
    obtain ⟨g6, hm⟩ := g_is hm
    refine gR X hI fdX11_27 (la_0 hn) rf11_3 dX11_order_36 ?_
    refine gR X hI fdX11_115 (lyO hn g6) rf6_0 dX11_order_39 ?_
    refine gI X hI fdX11_239 (lf6_0 hn (lyO hn g6)) dX11_order_42 ?_
    refine lv_icmp_ge (tgt := 74) hx hb dX11_order_45 (by decide) (fun c7 => ?_) (fun c7 => ?_)
    · have hm := g_t c7 hm
      exact hk74 x1 x2 x3 m H locs ls hI (lv_sub hl [0, 1, 2, 3] rfl) hm hpm
    · have hm := g_f c7 hm
      refine lv_iload hx hb dX11_order_48 (lv_at hl 4 rfl) ?_
      refine lv_bipush (v := (6 : Int32)) hx hb dX11_order_50 (by decide) ?_
      refine lv_icmp_ge (tgt := 74) hx hb dX11_order_52 (by decide) (fun c8 => ?_) (fun c8 => ?_)
      · have hm := g_t c8 hm
        exact hk74 x1 x2 x3 m H locs ls hI (lv_sub hl [0, 1, 2, 3] rfl) hm hpm
      · have hm := g_f c8 hm
        refine lv_aload_n hx hb dX11_order_55 rfl (lv_at hl 0 rfl) ?_
        refine lv_iload hx hb dX11_order_56 (lv_at hl 4 rfl) ?_
        refine lv_iload_n hx hb dX11_order_58 rfl (lv_at hl 2 rfl) ?_
        obtain ⟨q9, h10, hm⟩ := g_b hm
        refine backI X hI (runV X hI (ctX11_standsAhead x4 x2  hn _ _ h10 _) mdX11_242 (la_0 hn) rfl ⟨rfl, rfl⟩ ⟨Nat.le_of_ble_eq_true rfl, Nat.le_of_ble_eq_true rfl⟩ rfl hl.1 rfl (Nat.le_of_ble_eq_true rfl) dX11_order_59) (fun H locs hI => ?_)
        refine lv_if_eq (tgt := 68) hx hb dX11_order_62 (by decide) (fun c11 => ?_) (fun c11 => ?_)
        · have hm := g_t c11 hm
          refine lv_iinc (v := (x4 + (1 : Int32))) (lv' := [(4, .int (x4 + (1 : Int32))), (0, .ref (ad 0)), (1, .int x1), (2, .int x2), (3, .int x3)]) hx hb dX11_order_68 hl (k := 4) rfl rfl (by decide) rfl (fun ls hl => ?_)
          refine lv_goto (tgt := 33) hx hb dX11_order_71 (by decide) ?_
          exact ih x1 x2 x3 (x4 + (1 : Int32)) m H locs ls hI (lv_sub hl [1, 2, 3, 4, 0] rfl) hm hpm
        · have hm := g_f c11 hm
          refine lv_iinc (v := (x3 + (1 : Int32))) (lv' := [(3, .int (x3 + (1 : Int32))), (0, .ref (ad 0)), (1, .int x1), (2, .int x2), (4, .int x4)]) hx hb dX11_order_65 hl (k := 3) rfl rfl (by decide) rfl (fun ls hl => ?_)
          refine lv_iinc (v := (x4 + (1 : Int32))) (lv' := [(4, .int (x4 + (1 : Int32))), (3, .int (x3 + (1 : Int32))), (0, .ref (ad 0)), (1, .int x1), (2, .int x2)]) hx hb dX11_order_68 hl (k := 4) rfl rfl (by decide) rfl (fun ls hl => ?_)
          refine lv_goto (tgt := 33) hx hb dX11_order_71 (by decide) ?_
          exact ih x1 x2 (x3 + (1 : Int32)) (x4 + (1 : Int32)) m H locs ls hI (lv_sub hl [2, 3, 4, 1, 0] rfl) hm hpm
def fX11_order_8 (N : Nat) : Nat → Int32 → Int32 → Mem → Option Int32
  | 0, _, _, _ => none
  | n + 1, x1, x2, m => if lay (m.2.2 3) = (0, 6) then (if (m.1 ((m.2.2 3) + 1) 2) ≤ x2 then (some (-2 : Int32)) else (if (6 : Int32) ≤ x2 then (some (-2 : Int32)) else (fX11_order_33 N (fX11_order_74 N (fun x1 x2 m => fX11_order_8 N n x1 x2 m)) N x1 x2 (0 : Int32) (0 : Int32) m))) else none
set_option maxHeartbeats 4000000 in
set_option maxRecDepth 100000 in
theorem tX11_order_8 (N : Nat) {l : Launch} {D : va_G} {ca : Nat → ClassId} {ad : Nat → Nat} {p : Program} {e : Env} {s : State} {mm : MethodId} {args : Array Value} {below : List Frame} {meth : Method} {c : Code}  (hn : HNc ca) (X : CX p s mm args meth c cX11_order 5 RX11 D ca ad (WA ca ad s.heap.size)) (hr : meth.sig.returnType = (some .int)) (fin : Int32) (m0 : Mem)  : ∀ (n : Nat) (x1 : Int32) (x2 : Int32) (m : Mem) (H : Heap) (locs : List Loc) (ls : Array Slot), IW D ca ad (WA ca ad s.heap.size) s m H locs → lv_has ls 5 [(0, .ref (ad 0)), (1, .int x1), (2, .int x2)] → fX11_order_8 N n x1 x2 m = some fin → m = m0 → W p l e rmX11_order s mm args below meth c H locs 0 0 (MQ below (QI D ca ad s.heap.size fin m0) args s 0 0 (WA ca ad s.heap.size)) (F0 mm 8 ls []) := by
  have hx := X.1
  have hb := X.2.1
  intro n
  induction n with
  | zero => intro x1 x2 m H locs ls hI hl hm hpm
            exact absurd hm (by intro q; cases q)
  | succ n ih =>
    intro x1 x2 m H locs ls hI hl hm hpm
    have hm : (if lay (m.2.2 3) = (0, 6) then (if (m.1 ((m.2.2 3) + 1) 2) ≤ x2 then (some (-2 : Int32)) else (if (6 : Int32) ≤ x2 then (some (-2 : Int32)) else (fX11_order_33 N (fX11_order_74 N (fun x1 x2 m => fX11_order_8 N n x1 x2 m)) N x1 x2 (0 : Int32) (0 : Int32) m))) else none) = some fin := hm
    refine lv_iload_n hx hb dX11_order_8 rfl (lv_at hl 2 rfl) ?_
    refine lv_aload_n hx hb dX11_order_9 rfl (lv_at hl 0 rfl) ?_
    obtain ⟨g2, hm⟩ := g_is hm
    refine gR X hI fdX11_27 (la_0 hn) rf11_3 dX11_order_10 ?_
    refine gR X hI fdX11_115 (lyO hn g2) rf6_0 dX11_order_13 ?_
    refine gI X hI fdX11_239 (lf6_0 hn (lyO hn g2)) dX11_order_16 ?_
    refine lv_icmp_ge (tgt := 87) hx hb dX11_order_19 (by decide) (fun c3 => ?_) (fun c3 => ?_)
    · have hm := g_t c3 hm
      refine lv_bipush (v := (-2 : Int32)) hx hb dX11_order_87 (by decide) ?_
      exact rI X hI hr (g_1 hm) hpm dX11_order_89
    · have hm := g_f c3 hm
      refine lv_iload_n hx hb dX11_order_22 rfl (lv_at hl 2 rfl) ?_
      refine lv_bipush (v := (6 : Int32)) hx hb dX11_order_23 (by decide) ?_
      refine lv_icmp_ge (tgt := 87) hx hb dX11_order_25 (by decide) (fun c4 => ?_) (fun c4 => ?_)
      · have hm := g_t c4 hm
        refine lv_bipush (v := (-2 : Int32)) hx hb dX11_order_87 (by decide) ?_
        exact rI X hI hr (g_1 hm) hpm dX11_order_89
      · have hm := g_f c4 hm
        refine lv_iconst (v := (0 : Int32)) hx hb dX11_order_28 (by decide) ?_
        refine lv_istore_n (lv' := [(3, .int (0 : Int32)), (0, .ref (ad 0)), (1, .int x1), (2, .int x2)]) hx hb dX11_order_29 rfl hl (by decide) rfl (fun ls hl => ?_)
        refine lv_iconst (v := (0 : Int32)) hx hb dX11_order_30 (by decide) ?_
        refine lv_istore (lv' := [(4, .int (0 : Int32)), (3, .int (0 : Int32)), (0, .ref (ad 0)), (1, .int x1), (2, .int x2)]) hx hb dX11_order_31 hl (by decide) rfl (fun ls hl => ?_)
        exact tX11_order_33 N hn X hr fin m0 (tX11_order_74 N hn X hr fin m0 ih) N x1 x2 (0 : Int32) (0 : Int32) m H locs ls hI (lv_sub hl [2, 3, 4, 1, 0] rfl) hm hpm
def fX11_order (N : Nat) (x1 : Int32) (m : Mem) : Option Int32 := if 0 ≤ x1 then (fX11_order_8 N N x1 (0 : Int32) m) else (some (-1 : Int32))
set_option maxHeartbeats 4000000 in
set_option maxRecDepth 100000 in
theorem ctX11_order {l : Launch} {D : va_G} {ca : Nat → ClassId} {ad : Nat → Nat} (N : Nat) (x1 : Int32)  (hn : HNc ca) (m : Mem) (fin : Int32) (hm : fX11_order N x1 m = some fin) : CI l D ca ad yX11_order cwX11_order rmX11_order [.ref (ad 0), .int x1] m fin m := by
  refine start (by decide) (Nat.le_of_ble_eq_true rfl) ?_
  intro p e s mm args below meth c H locs ls X hI hr hl
  have X : CX p s mm args meth c cX11_order 5 RX11 D ca ad (WA ca ad s.heap.size) := X
  have hx := X.1
  have hb := X.2.1
  have hl : lv_has ls 5 [(0, .ref (ad 0)), (1, .int x1)] := hl
  have hm : (if 0 ≤ x1 then (fX11_order_8 N N x1 (0 : Int32) m) else (some (-1 : Int32))) = some fin := hm
  have hpm : m = m := rfl
  refine lv_iload_n hx hb dX11_order_0 rfl (lv_at hl 1 rfl) ?_
  refine lv_if_ge (tgt := 6) hx hb dX11_order_1 (by decide) (fun c1 => ?_) (fun c1 => ?_)
  · have hm := g_t c1 hm
    refine lv_iconst (v := (0 : Int32)) hx hb dX11_order_6 (by decide) ?_
    refine lv_istore_n (lv' := [(2, .int (0 : Int32)), (0, .ref (ad 0)), (1, .int x1)]) hx hb dX11_order_7 rfl hl (by decide) rfl (fun ls hl => ?_)
    exact tX11_order_8 N hn X hr fin m  N x1 (0 : Int32) m H locs ls hI (lv_sub hl [1, 2, 0] rfl) hm hpm
  · have hm := g_f c1 hm
    refine lv_iconst (v := (-1 : Int32)) hx hb dX11_order_4 (by decide) ?_
    exact rI X hI hr (g_1 hm) hpm dX11_order_5
abbrev rmX11_fewestFor : Room := { frames := 2, cells := 0, slots := 0, locals := 43 }
def fX11_fewestFor_20 (N : Nat) : Nat → Int32 → Int32 → Int32 → Mem → Option Int32
  | 0, _, _, _, _ => none
  | n + 1, x1, x2, x3, m => if (60 : Int32) < x3 then (some (-2 : Int32)) else ((fX0_hasRoom 43 x1 x3 m).bind (fun q4 => if q4 = 0 then (some (-2 : Int32)) else ((fX0_mixedHeat 43 x1 x3 (990 : Int32) m).bind (fun q7 => if q7 < ((10 : Int32) * x2) then (fX11_fewestFor_20 N n x1 x2 (x3 + (1 : Int32)) m) else (some x3)))))
set_option maxHeartbeats 4000000 in
set_option maxRecDepth 100000 in
theorem tX11_fewestFor_20 (N : Nat) {l : Launch} {D : va_G} {ca : Nat → ClassId} {ad : Nat → Nat} {p : Program} {e : Env} {s : State} {mm : MethodId} {args : Array Value} {below : List Frame} {meth : Method} {c : Code}  (hn : HNc ca) (X : CX p s mm args meth c cX11_fewestFor 4 RX11 D ca ad (WA ca ad s.heap.size)) (hr : meth.sig.returnType = (some .int)) (fin : Int32) (m0 : Mem)  : ∀ (n : Nat) (x1 : Int32) (x2 : Int32) (x3 : Int32) (m : Mem) (H : Heap) (locs : List Loc) (ls : Array Slot), IW D ca ad (WA ca ad s.heap.size) s m H locs → lv_has ls 4 [(0, .ref (ad 0)), (1, .int x1), (2, .int x2), (3, .int x3)] → fX11_fewestFor_20 N n x1 x2 x3 m = some fin → m = m0 → W p l e rmX11_fewestFor s mm args below meth c H locs 0 0 (MQ below (QI D ca ad s.heap.size fin m0) args s 0 0 (WA ca ad s.heap.size)) (F0 mm 20 ls []) := by
  have hx := X.1
  have hb := X.2.1
  intro n
  induction n with
  | zero => intro x1 x2 x3 m H locs ls hI hl hm hpm
            exact absurd hm (by intro q; cases q)
  | succ n ih =>
    intro x1 x2 x3 m H locs ls hI hl hm hpm
    have hm : (if (60 : Int32) < x3 then (some (-2 : Int32)) else ((fX0_hasRoom 43 x1 x3 m).bind (fun q4 => if q4 = 0 then (some (-2 : Int32)) else ((fX0_mixedHeat 43 x1 x3 (990 : Int32) m).bind (fun q7 => if q7 < ((10 : Int32) * x2) then (fX11_fewestFor_20 N n x1 x2 (x3 + (1 : Int32)) m) else (some x3)))))) = some fin := hm
    refine lv_iload_n hx hb dX11_fewestFor_20 rfl (lv_at hl 3 rfl) ?_
    refine lv_bipush (v := (60 : Int32)) hx hb dX11_fewestFor_21 (by decide) ?_
    refine lv_icmp_gt (tgt := 68) hx hb dX11_fewestFor_23 (by decide) (fun c3 => ?_) (fun c3 => ?_)
    · have hm := g_t c3 hm
      refine lv_bipush (v := (-2 : Int32)) hx hb dX11_fewestFor_68 (by decide) ?_
      exact rI X hI hr (g_1 hm) hpm dX11_fewestFor_70
    · have hm := g_f c3 hm
      refine lv_aload_n hx hb dX11_fewestFor_26 rfl (lv_at hl 0 rfl) ?_
      refine gR X hI fdX11_37 (la_0 hn) rf11_5 dX11_fewestFor_27 ?_
      refine lv_iload_n hx hb dX11_fewestFor_30 rfl (lv_at hl 1 rfl) ?_
      refine lv_iload_n hx hb dX11_fewestFor_31 rfl (lv_at hl 3 rfl) ?_
      obtain ⟨q4, h5, hm⟩ := g_b hm
      refine backI X hI (runV X hI (ctX0_hasRoom 43 x1 x3 (la_43 hn) hn _ _ h5 _) mdX11_191 (la_43 hn) rfl ⟨rfl, rfl⟩ ⟨Nat.le_of_ble_eq_true rfl, Nat.le_of_ble_eq_true rfl⟩ rfl hl.1 rfl (Nat.le_of_ble_eq_true rfl) dX11_fewestFor_32) (fun H locs hI => ?_)
      refine lv_if_ne (tgt := 41) hx hb dX11_fewestFor_35 (by decide) (fun c6 => ?_) (fun c6 => ?_)
      · have hm := g_f c6 hm
        refine lv_aload_n hx hb dX11_fewestFor_41 rfl (lv_at hl 0 rfl) ?_
        refine gR X hI fdX11_37 (la_0 hn) rf11_5 dX11_fewestFor_42 ?_
        refine lv_iload_n hx hb dX11_fewestFor_45 rfl (lv_at hl 1 rfl) ?_
        refine lv_iload_n hx hb dX11_fewestFor_46 rfl (lv_at hl 3 rfl) ?_
        refine lv_sipush (v := (990 : Int32)) hx hb dX11_fewestFor_47 (by decide) ?_
        obtain ⟨q7, h8, hm⟩ := g_b hm
        refine backI X hI (runV X hI (ctX0_mixedHeat 43 x1 x3 (990 : Int32) (la_43 hn) hn _ _ h8 _) mdX11_249 (la_43 hn) rfl ⟨rfl, rfl⟩ ⟨Nat.le_of_ble_eq_true rfl, Nat.le_of_ble_eq_true rfl⟩ rfl hl.1 rfl (Nat.le_of_ble_eq_true rfl) dX11_fewestFor_50) (fun H locs hI => ?_)
        refine lv_bipush (v := (10 : Int32)) hx hb dX11_fewestFor_53 (by decide) ?_
        refine lv_iload_n hx hb dX11_fewestFor_55 rfl (lv_at hl 2 rfl) ?_
        refine lv_imul hx hb dX11_fewestFor_56 ?_
        refine lv_icmp_lt (tgt := 62) hx hb dX11_fewestFor_57 (by decide) (fun c9 => ?_) (fun c9 => ?_)
        · have hm := g_t c9 hm
          refine lv_iinc (v := (x3 + (1 : Int32))) (lv' := [(3, .int (x3 + (1 : Int32))), (0, .ref (ad 0)), (1, .int x1), (2, .int x2)]) hx hb dX11_fewestFor_62 hl (k := 3) rfl rfl (by decide) rfl (fun ls hl => ?_)
          refine lv_goto (tgt := 20) hx hb dX11_fewestFor_65 (by decide) ?_
          exact ih x1 x2 (x3 + (1 : Int32)) m H locs ls hI (lv_sub hl [1, 2, 3, 0] rfl) hm hpm
        · have hm := g_f c9 hm
          refine lv_iload_n hx hb dX11_fewestFor_60 rfl (lv_at hl 3 rfl) ?_
          exact rI X hI hr (g_1 hm) hpm dX11_fewestFor_61
      · have hm := g_t c6 hm
        refine lv_bipush (v := (-2 : Int32)) hx hb dX11_fewestFor_38 (by decide) ?_
        exact rI X hI hr (g_1 hm) hpm dX11_fewestFor_40
def fX11_fewestFor (N : Nat) (x1 : Int32) (x2 : Int32) (m : Mem) : Option Int32 := if x1 < 0 ∨ 6 ≤ x1.toNatClampNeg then none else (if (m.1 45 x1.toNatClampNeg) < ((10 : Int32) * x2) then (fX11_fewestFor_20 N N x1 x2 (1 : Int32) m) else (some (0 : Int32)))
set_option maxHeartbeats 4000000 in
set_option maxRecDepth 100000 in
theorem ctX11_fewestFor {l : Launch} {D : va_G} {ca : Nat → ClassId} {ad : Nat → Nat} (N : Nat) (x1 : Int32) (x2 : Int32)  (hn : HNc ca) (m : Mem) (fin : Int32) (hm : fX11_fewestFor N x1 x2 m = some fin) : CI l D ca ad yX11_fewestFor cwX11_fewestFor rmX11_fewestFor [.ref (ad 0), .int x1, .int x2] m fin m := by
  refine start (by decide) (Nat.le_of_ble_eq_true rfl) ?_
  intro p e s mm args below meth c H locs ls X hI hr hl
  have X : CX p s mm args meth c cX11_fewestFor 4 RX11 D ca ad (WA ca ad s.heap.size) := X
  have hx := X.1
  have hb := X.2.1
  have hl : lv_has ls 4 [(0, .ref (ad 0)), (1, .int x1), (2, .int x2)] := hl
  have hm : (if x1 < 0 ∨ 6 ≤ x1.toNatClampNeg then none else (if (m.1 45 x1.toNatClampNeg) < ((10 : Int32) * x2) then (fX11_fewestFor_20 N N x1 x2 (1 : Int32) m) else (some (0 : Int32)))) = some fin := hm
  have hpm : m = m := rfl
  refine lv_aload_n hx hb dX11_fewestFor_0 rfl (lv_at hl 0 rfl) ?_
  refine gR X hI fdX11_37 (la_0 hn) rf11_5 dX11_fewestFor_1 ?_
  refine gR X hI fdX11_143 (la_43 hn) rf0_1 dX11_fewestFor_4 ?_
  refine lv_iload_n hx hb dX11_fewestFor_7 rfl (lv_at hl 1 rfl) ?_
  obtain ⟨g1, hm⟩ := g_no hm
  refine aI X hI (la_45 hn) g1 dX11_fewestFor_8 ?_
  refine lv_bipush (v := (10 : Int32)) hx hb dX11_fewestFor_9 (by decide) ?_
  refine lv_iload_n hx hb dX11_fewestFor_11 rfl (lv_at hl 2 rfl) ?_
  refine lv_imul hx hb dX11_fewestFor_12 ?_
  refine lv_icmp_lt (tgt := 18) hx hb dX11_fewestFor_13 (by decide) (fun c2 => ?_) (fun c2 => ?_)
  · have hm := g_t c2 hm
    refine lv_iconst (v := (1 : Int32)) hx hb dX11_fewestFor_18 (by decide) ?_
    refine lv_istore_n (lv' := [(3, .int (1 : Int32)), (0, .ref (ad 0)), (1, .int x1), (2, .int x2)]) hx hb dX11_fewestFor_19 rfl hl (by decide) rfl (fun ls hl => ?_)
    exact tX11_fewestFor_20 N hn X hr fin m  N x1 x2 (1 : Int32) m H locs ls hI (lv_sub hl [1, 2, 3, 0] rfl) hm hpm
  · have hm := g_f c2 hm
    refine lv_iconst (v := (0 : Int32)) hx hb dX11_fewestFor_16 (by decide) ?_
    exact rI X hI hr (g_1 hm) hpm dX11_fewestFor_17
abbrev rmX11_addFor : Room := { frames := 3, cells := 0, slots := 0, locals := 66 }
abbrev cwX11_addFor : Cond := .code yX11_addFor cX11_addFor 3 (some .int)
theorem cmX11_addFor : cwX11_addFor ∈ BIG := (tb4 (List.mem_of_getElem? (i := 222) rfl) rfl)
def fX11_addFor (N : Nat) (x1 : Int32) (x2 : Int32) (m : Mem) : Option Int32 := if lay (m.2.2 3) = (0, 6) then ((fX6_hasTub (m.2.2 3) x1 m).bind (fun q2 => if q2 = 0 then (some (-1 : Int32)) else ((fX11_isDegrees x2 m).bind (fun q5 => if q5 = 0 then (some (-1 : Int32)) else ((fX11_fewestFor N x1 x2 m).bind (fun q8 => some q8)))))) else none
set_option maxHeartbeats 4000000 in
set_option maxRecDepth 100000 in
theorem ctX11_addFor {l : Launch} {D : va_G} {ca : Nat → ClassId} {ad : Nat → Nat} (N : Nat) (x1 : Int32) (x2 : Int32)  (hn : HNc ca) (m : Mem) (fin : Int32) (hm : fX11_addFor N x1 x2 m = some fin) : CI l D ca ad yX11_addFor cwX11_addFor rmX11_addFor [.ref (ad 0), .int x1, .int x2] m fin m := by
  refine start (by decide) (Nat.le_of_ble_eq_true rfl) ?_
  intro p e s mm args below meth c H locs ls X hI hr hl
  have X : CX p s mm args meth c cX11_addFor 3 RX11 D ca ad (WA ca ad s.heap.size) := X
  have hx := X.1
  have hb := X.2.1
  have hl : lv_has ls 3 [(0, .ref (ad 0)), (1, .int x1), (2, .int x2)] := hl
  have hm : (if lay (m.2.2 3) = (0, 6) then ((fX6_hasTub (m.2.2 3) x1 m).bind (fun q2 => if q2 = 0 then (some (-1 : Int32)) else ((fX11_isDegrees x2 m).bind (fun q5 => if q5 = 0 then (some (-1 : Int32)) else ((fX11_fewestFor N x1 x2 m).bind (fun q8 => some q8)))))) else none) = some fin := hm
  have hpm : m = m := rfl
  refine lv_aload_n hx hb dX11_addFor_0 rfl (lv_at hl 0 rfl) ?_
  obtain ⟨g1, hm⟩ := g_is hm
  refine gR X hI fdX11_27 (la_0 hn) rf11_3 dX11_addFor_1 ?_
  refine lv_iload_n hx hb dX11_addFor_4 rfl (lv_at hl 1 rfl) ?_
  obtain ⟨q2, h3, hm⟩ := g_b hm
  refine backI X hI (runV X hI (ctX6_hasTub (m.2.2 3) x1 (lyO hn g1) hn _ _ h3 _) mdX11_128 (lyO hn g1) rfl ⟨rfl, rfl⟩ ⟨Nat.le_of_ble_eq_true rfl, Nat.le_of_ble_eq_true rfl⟩ rfl hl.1 rfl (Nat.le_of_ble_eq_true rfl) dX11_addFor_5) (fun H locs hI => ?_)
  refine lv_if_eq (tgt := 27) hx hb dX11_addFor_8 (by decide) (fun c4 => ?_) (fun c4 => ?_)
  · have hm := g_t c4 hm
    refine lv_iconst (v := (-1 : Int32)) hx hb dX11_addFor_27 (by decide) ?_
    exact rI X hI hr (g_1 hm) hpm dX11_addFor_28
  · have hm := g_f c4 hm
    refine lv_iload_n hx hb dX11_addFor_11 rfl (lv_at hl 2 rfl) ?_
    obtain ⟨q5, h6, hm⟩ := g_b hm
    refine backI X hI (runS X hI (ctX11_isDegrees x2  hn _ _ h6 _) msX11_232 ⟨rfl, rfl⟩ ⟨Nat.le_of_ble_eq_true rfl, Nat.le_of_ble_eq_true rfl⟩ rfl hl.1 rfl (Nat.le_of_ble_eq_true rfl) dX11_addFor_12) (fun H locs hI => ?_)
    refine lv_if_eq (tgt := 27) hx hb dX11_addFor_15 (by decide) (fun c7 => ?_) (fun c7 => ?_)
    · have hm := g_t c7 hm
      refine lv_iconst (v := (-1 : Int32)) hx hb dX11_addFor_27 (by decide) ?_
      exact rI X hI hr (g_1 hm) hpm dX11_addFor_28
    · have hm := g_f c7 hm
      refine lv_aload_n hx hb dX11_addFor_18 rfl (lv_at hl 0 rfl) ?_
      refine lv_iload_n hx hb dX11_addFor_19 rfl (lv_at hl 1 rfl) ?_
      refine lv_iload_n hx hb dX11_addFor_20 rfl (lv_at hl 2 rfl) ?_
      obtain ⟨q8, h9, hm⟩ := g_b hm
      refine backI X hI (runV X hI (ctX11_fewestFor N x1 x2  hn _ _ h9 _) mdX11_245 (la_0 hn) rfl ⟨rfl, rfl⟩ ⟨Nat.le_of_ble_eq_true rfl, Nat.le_of_ble_eq_true rfl⟩ rfl hl.1 rfl (Nat.le_of_ble_eq_true rfl) dX11_addFor_21) (fun H locs hI => ?_)
      refine lv_goto (tgt := 28) hx hb dX11_addFor_24 (by decide) ?_
      exact rI X hI hr (g_1 hm) hpm dX11_addFor_28
abbrev rmX11_coal : Room := { frames := 3, cells := 0, slots := 0, locals := 66 }
abbrev cwX11_coal : Cond := .code yX11_coal cX11_coal 5 (some .int)
theorem cmX11_coal : cwX11_coal ∈ BIG := (tb4 (List.mem_of_getElem? (i := 231) rfl) rfl)
def fX11_coal_13 (N : Nat) : Nat → Int32 → Int32 → Int32 → Mem → Option Int32
  | 0, _, _, _, _ => none
  | n + 1, x1, x2, x3, m => if lay (m.2.2 3) = (0, 6) then (if (m.1 ((m.2.2 3) + 3) 2) ≤ x3 then (some x2) else (if (6 : Int32) ≤ x3 then (some x2) else ((fX11_fewestFor N x3 x1 m).bind (fun q7 => if 0 ≤ q7 then (fX11_coal_13 N n x1 (x2 + q7) (x3 + (1 : Int32)) m) else (some (-2 : Int32)))))) else none
set_option maxHeartbeats 4000000 in
set_option maxRecDepth 100000 in
theorem tX11_coal_13 (N : Nat) {l : Launch} {D : va_G} {ca : Nat → ClassId} {ad : Nat → Nat} {p : Program} {e : Env} {s : State} {mm : MethodId} {args : Array Value} {below : List Frame} {meth : Method} {c : Code}  (hn : HNc ca) (X : CX p s mm args meth c cX11_coal 5 RX11 D ca ad (WA ca ad s.heap.size)) (hr : meth.sig.returnType = (some .int)) (fin : Int32) (m0 : Mem)  : ∀ (n : Nat) (x1 : Int32) (x2 : Int32) (x3 : Int32) (m : Mem) (H : Heap) (locs : List Loc) (ls : Array Slot), IW D ca ad (WA ca ad s.heap.size) s m H locs → lv_has ls 5 [(0, .ref (ad 0)), (1, .int x1), (2, .int x2), (3, .int x3)] → fX11_coal_13 N n x1 x2 x3 m = some fin → m = m0 → W p l e rmX11_coal s mm args below meth c H locs 0 0 (MQ below (QI D ca ad s.heap.size fin m0) args s 0 0 (WA ca ad s.heap.size)) (F0 mm 13 ls []) := by
  have hx := X.1
  have hb := X.2.1
  intro n
  induction n with
  | zero => intro x1 x2 x3 m H locs ls hI hl hm hpm
            exact absurd hm (by intro q; cases q)
  | succ n ih =>
    intro x1 x2 x3 m H locs ls hI hl hm hpm
    have hm : (if lay (m.2.2 3) = (0, 6) then (if (m.1 ((m.2.2 3) + 3) 2) ≤ x3 then (some x2) else (if (6 : Int32) ≤ x3 then (some x2) else ((fX11_fewestFor N x3 x1 m).bind (fun q7 => if 0 ≤ q7 then (fX11_coal_13 N n x1 (x2 + q7) (x3 + (1 : Int32)) m) else (some (-2 : Int32)))))) else none) = some fin := hm
    refine lv_iload_n hx hb dX11_coal_13 rfl (lv_at hl 3 rfl) ?_
    refine lv_aload_n hx hb dX11_coal_14 rfl (lv_at hl 0 rfl) ?_
    obtain ⟨g4, hm⟩ := g_is hm
    refine gR X hI fdX11_27 (la_0 hn) rf11_3 dX11_coal_15 ?_
    refine gR X hI fdX11_125 (lyO hn g4) rf6_1 dX11_coal_18 ?_
    refine gI X hI fdX11_239 (lf6_1 hn (lyO hn g4)) dX11_coal_21 ?_
    refine lv_icmp_ge (tgt := 60) hx hb dX11_coal_24 (by decide) (fun c5 => ?_) (fun c5 => ?_)
    · have hm := g_t c5 hm
      refine lv_iload_n hx hb dX11_coal_60 rfl (lv_at hl 2 rfl) ?_
      exact rI X hI hr (g_1 hm) hpm dX11_coal_61
    · have hm := g_f c5 hm
      refine lv_iload_n hx hb dX11_coal_27 rfl (lv_at hl 3 rfl) ?_
      refine lv_bipush (v := (6 : Int32)) hx hb dX11_coal_28 (by decide) ?_
      refine lv_icmp_ge (tgt := 60) hx hb dX11_coal_30 (by decide) (fun c6 => ?_) (fun c6 => ?_)
      · have hm := g_t c6 hm
        refine lv_iload_n hx hb dX11_coal_60 rfl (lv_at hl 2 rfl) ?_
        exact rI X hI hr (g_1 hm) hpm dX11_coal_61
      · have hm := g_f c6 hm
        refine lv_aload_n hx hb dX11_coal_33 rfl (lv_at hl 0 rfl) ?_
        refine lv_iload_n hx hb dX11_coal_34 rfl (lv_at hl 3 rfl) ?_
        refine lv_iload_n hx hb dX11_coal_35 rfl (lv_at hl 1 rfl) ?_
        obtain ⟨q7, h8, hm⟩ := g_b hm
        refine backI X hI (runV X hI (ctX11_fewestFor N x3 x1  hn _ _ h8 _) mdX11_245 (la_0 hn) rfl ⟨rfl, rfl⟩ ⟨Nat.le_of_ble_eq_true rfl, Nat.le_of_ble_eq_true rfl⟩ rfl hl.1 rfl (Nat.le_of_ble_eq_true rfl) dX11_coal_36) (fun H locs hI => ?_)
        refine lv_istore (lv' := [(4, .int q7), (0, .ref (ad 0)), (1, .int x1), (2, .int x2), (3, .int x3)]) hx hb dX11_coal_39 hl (by decide) rfl (fun ls hl => ?_)
        refine lv_iload hx hb dX11_coal_41 (lv_at hl 0 rfl) ?_
        refine lv_if_ge (tgt := 49) hx hb dX11_coal_43 (by decide) (fun c9 => ?_) (fun c9 => ?_)
        · have hm := g_t c9 hm
          refine lv_iload_n hx hb dX11_coal_49 rfl (lv_at hl 3 rfl) ?_
          refine lv_iload hx hb dX11_coal_50 (lv_at hl 0 rfl) ?_
          refine lv_iadd hx hb dX11_coal_52 ?_
          refine lv_istore_n (lv' := [(2, .int (x2 + q7)), (4, .int q7), (0, .ref (ad 0)), (1, .int x1), (3, .int x3)]) hx hb dX11_coal_53 rfl hl (by decide) rfl (fun ls hl => ?_)
          refine lv_iinc (v := (x3 + (1 : Int32))) (lv' := [(3, .int (x3 + (1 : Int32))), (2, .int (x2 + q7)), (4, .int q7), (0, .ref (ad 0)), (1, .int x1)]) hx hb dX11_coal_54 hl (k := 4) rfl rfl (by decide) rfl (fun ls hl => ?_)
          refine lv_goto (tgt := 13) hx hb dX11_coal_57 (by decide) ?_
          exact ih x1 (x2 + q7) (x3 + (1 : Int32)) m H locs ls hI (lv_sub hl [3, 4, 1, 0] rfl) hm hpm
        · have hm := g_f c9 hm
          refine lv_bipush (v := (-2 : Int32)) hx hb dX11_coal_46 (by decide) ?_
          exact rI X hI hr (g_1 hm) hpm dX11_coal_48
def fX11_coal (N : Nat) (x1 : Int32) (m : Mem) : Option Int32 := (fX11_isDegrees x1 m).bind (fun q1 => if q1 = 0 then (some (-1 : Int32)) else (fX11_coal_13 N N x1 (0 : Int32) (0 : Int32) m))
set_option maxHeartbeats 4000000 in
set_option maxRecDepth 100000 in
theorem ctX11_coal {l : Launch} {D : va_G} {ca : Nat → ClassId} {ad : Nat → Nat} (N : Nat) (x1 : Int32)  (hn : HNc ca) (m : Mem) (fin : Int32) (hm : fX11_coal N x1 m = some fin) : CI l D ca ad yX11_coal cwX11_coal rmX11_coal [.ref (ad 0), .int x1] m fin m := by
  refine start (by decide) (Nat.le_of_ble_eq_true rfl) ?_
  intro p e s mm args below meth c H locs ls X hI hr hl
  have X : CX p s mm args meth c cX11_coal 5 RX11 D ca ad (WA ca ad s.heap.size) := X
  have hx := X.1
  have hb := X.2.1
  have hl : lv_has ls 5 [(0, .ref (ad 0)), (1, .int x1)] := hl
  have hm : ((fX11_isDegrees x1 m).bind (fun q1 => if q1 = 0 then (some (-1 : Int32)) else (fX11_coal_13 N N x1 (0 : Int32) (0 : Int32) m))) = some fin := hm
  have hpm : m = m := rfl
  refine lv_iload_n hx hb dX11_coal_0 rfl (lv_at hl 1 rfl) ?_
  obtain ⟨q1, h2, hm⟩ := g_b hm
  refine backI X hI (runS X hI (ctX11_isDegrees x1  hn _ _ h2 _) msX11_232 ⟨rfl, rfl⟩ ⟨Nat.le_of_ble_eq_true rfl, Nat.le_of_ble_eq_true rfl⟩ rfl hl.1 rfl (Nat.le_of_ble_eq_true rfl) dX11_coal_1) (fun H locs hI => ?_)
  refine lv_if_ne (tgt := 9) hx hb dX11_coal_4 (by decide) (fun c3 => ?_) (fun c3 => ?_)
  · have hm := g_f c3 hm
    refine lv_iconst (v := (0 : Int32)) hx hb dX11_coal_9 (by decide) ?_
    refine lv_istore_n (lv' := [(2, .int (0 : Int32)), (0, .ref (ad 0)), (1, .int x1)]) hx hb dX11_coal_10 rfl hl (by decide) rfl (fun ls hl => ?_)
    refine lv_iconst (v := (0 : Int32)) hx hb dX11_coal_11 (by decide) ?_
    refine lv_istore_n (lv' := [(3, .int (0 : Int32)), (2, .int (0 : Int32)), (0, .ref (ad 0)), (1, .int x1)]) hx hb dX11_coal_12 rfl hl (by decide) rfl (fun ls hl => ?_)
    exact tX11_coal_13 N hn X hr fin m  N x1 (0 : Int32) (0 : Int32) m H locs ls hI (lv_sub hl [2, 3, 1, 0] rfl) hm hpm
  · have hm := g_t c3 hm
    refine lv_iconst (v := (-1 : Int32)) hx hb dX11_coal_7 (by decide) ?_
    exact rI X hI hr (g_1 hm) hpm dX11_coal_8
abbrev rmX11_leastTerm : Room := { frames := 0, cells := 0, slots := 0, locals := 0 }
def fX11_leastTerm_45 (N : Nat) (x0 : Int64) (x2 : Int64) (x4 : Int32) (x5 : Int64) (m : Mem) : Option Int64 := if (lg_cmp x5 (0 : Int64)) = 0 then (some (-1 : Int64)) else (if x4 = 0 then (if x5 = 0 then none else (some (x0 / x5))) else (if x5 = 0 then none else (some (x2 / x5))))
set_option maxHeartbeats 4000000 in
set_option maxRecDepth 100000 in
theorem tX11_leastTerm_45 (N : Nat) {l : Launch} {D : va_G} {ca : Nat → ClassId} {ad : Nat → Nat} {p : Program} {e : Env} {s : State} {mm : MethodId} {args : Array Value} {below : List Frame} {meth : Method} {c : Code}  (hn : HNc ca) (X : CX p s mm args meth c cX11_leastTerm 12 RX11 D ca ad (WA ca ad s.heap.size)) (hr : meth.sig.returnType = (some .long)) (fin : Int64) (m0 : Mem)  : ∀ (x0 : Int64) (x2 : Int64) (x4 : Int32) (x5 : Int64) (m : Mem) (H : Heap) (locs : List Loc) (ls : Array Slot), IW D ca ad (WA ca ad s.heap.size) s m H locs → lv_has ls 12 [(0, .long x0), (2, .long x2), (4, .int x4), (5, .long x5)] → fX11_leastTerm_45 N x0 x2 x4 x5 m = some fin → m = m0 → W p l e rmX11_leastTerm s mm args below meth c H locs 0 0 (MQ below (QL D ca ad s.heap.size fin m0) args s 0 0 (WA ca ad s.heap.size)) (F0 mm 45 ls []) := by
  have hx := X.1
  have hb := X.2.1
  intro x0 x2 x4 x5 m H locs ls hI hl hm hpm
  have hm : (if (lg_cmp x5 (0 : Int64)) = 0 then (some (-1 : Int64)) else (if x4 = 0 then (if x5 = 0 then none else (some (x0 / x5))) else (if x5 = 0 then none else (some (x2 / x5))))) = some fin := hm
  refine lv_lload hx hb dX11_leastTerm_45 (lv_at hl 3 rfl) ?_
  refine lv_lconst (v := (0 : Int64)) hx hb dX11_leastTerm_47 (by decide) ?_
  refine W.lcmp hx hb dX11_leastTerm_48 ?_
  refine lv_if_ne (tgt := 56) hx hb dX11_leastTerm_49 (by decide) (fun c1 => ?_) (fun c1 => ?_)
  · have hm := g_f c1 hm
    refine lv_iload hx hb dX11_leastTerm_56 (lv_at hl 2 rfl) ?_
    refine lv_if_ne (tgt := 65) hx hb dX11_leastTerm_58 (by decide) (fun c2 => ?_) (fun c2 => ?_)
    · have hm := g_f c2 hm
      refine lv_lload_n hx hb dX11_leastTerm_65 rfl (lv_at hl 1 rfl) ?_
      refine lv_lload hx hb dX11_leastTerm_66 (lv_at hl 3 rfl) ?_
      obtain ⟨g3, hm⟩ := g_no hm
      refine lv_ldiv hx hb dX11_leastTerm_68 g3 ?_
      exact rL X hI hr (g_1 hm) hpm dX11_leastTerm_69
    · have hm := g_t c2 hm
      refine lv_lload_n hx hb dX11_leastTerm_61 rfl (lv_at hl 0 rfl) ?_
      refine lv_goto (tgt := 66) hx hb dX11_leastTerm_62 (by decide) ?_
      refine lv_lload hx hb dX11_leastTerm_66 (lv_at hl 3 rfl) ?_
      obtain ⟨g4, hm⟩ := g_no hm
      refine lv_ldiv hx hb dX11_leastTerm_68 g4 ?_
      exact rL X hI hr (g_1 hm) hpm dX11_leastTerm_69
  · have hm := g_t c1 hm
    refine lv_ldc2 hx hb X.2.2.2.1 (X.2.2.2.2.1 _ kcX11_257) dX11_leastTerm_52 ?_
    exact rL X hI hr (g_1 hm) hpm dX11_leastTerm_55
def fX11_leastTerm_9 (N : Nat) (k45 : Int64 → Int64 → Int32 → Int64 → Mem → Option Int64) : Nat → Int64 → Int64 → Int32 → Int64 → Int64 → Int32 → Mem → Option Int64
  | 0, _, _, _, _, _, _, _ => none
  | n + 1, x0, x2, x4, x5, x7, x9, m => if (200 : Int32) ≤ x9 then (k45 x0 x2 x4 x5 m) else (if (lg_cmp x7 (0 : Int64)) = 0 then (k45 x0 x2 x4 x5 m) else (if x7 = 0 then none else (fX11_leastTerm_9 N k45 n x0 x2 x4 x7 (jremL x5 x7) (x9 + (1 : Int32)) m)))
set_option maxHeartbeats 4000000 in
set_option maxRecDepth 100000 in
theorem tX11_leastTerm_9 (N : Nat) {l : Launch} {D : va_G} {ca : Nat → ClassId} {ad : Nat → Nat} {p : Program} {e : Env} {s : State} {mm : MethodId} {args : Array Value} {below : List Frame} {meth : Method} {c : Code} {k45 : Int64 → Int64 → Int32 → Int64 → Mem → Option Int64} (hn : HNc ca) (X : CX p s mm args meth c cX11_leastTerm 12 RX11 D ca ad (WA ca ad s.heap.size)) (hr : meth.sig.returnType = (some .long)) (fin : Int64) (m0 : Mem) (hk45 : ∀ (x0 : Int64) (x2 : Int64) (x4 : Int32) (x5 : Int64) (m : Mem) (H : Heap) (locs : List Loc) (ls : Array Slot), IW D ca ad (WA ca ad s.heap.size) s m H locs → lv_has ls 12 [(0, .long x0), (2, .long x2), (4, .int x4), (5, .long x5)] → k45 x0 x2 x4 x5 m = some fin → m = m0 → W p l e rmX11_leastTerm s mm args below meth c H locs 0 0 (MQ below (QL D ca ad s.heap.size fin m0) args s 0 0 (WA ca ad s.heap.size)) (F0 mm 45 ls [])) : ∀ (n : Nat) (x0 : Int64) (x2 : Int64) (x4 : Int32) (x5 : Int64) (x7 : Int64) (x9 : Int32) (m : Mem) (H : Heap) (locs : List Loc) (ls : Array Slot), IW D ca ad (WA ca ad s.heap.size) s m H locs → lv_has ls 12 [(0, .long x0), (2, .long x2), (4, .int x4), (5, .long x5), (7, .long x7), (9, .int x9)] → fX11_leastTerm_9 N k45 n x0 x2 x4 x5 x7 x9 m = some fin → m = m0 → W p l e rmX11_leastTerm s mm args below meth c H locs 0 0 (MQ below (QL D ca ad s.heap.size fin m0) args s 0 0 (WA ca ad s.heap.size)) (F0 mm 9 ls []) := by
  have hx := X.1
  have hb := X.2.1
  intro n
  induction n with
  | zero => intro x0 x2 x4 x5 x7 x9 m H locs ls hI hl hm hpm
            exact absurd hm (by intro q; cases q)
  | succ n ih =>
    intro x0 x2 x4 x5 x7 x9 m H locs ls hI hl hm hpm
    have hm : (if (200 : Int32) ≤ x9 then (k45 x0 x2 x4 x5 m) else (if (lg_cmp x7 (0 : Int64)) = 0 then (k45 x0 x2 x4 x5 m) else (if x7 = 0 then none else (fX11_leastTerm_9 N k45 n x0 x2 x4 x7 (jremL x5 x7) (x9 + (1 : Int32)) m)))) = some fin := hm
    refine lv_iload hx hb dX11_leastTerm_9 (lv_at hl 5 rfl) ?_
    refine lv_sipush (v := (200 : Int32)) hx hb dX11_leastTerm_11 (by decide) ?_
    refine lv_icmp_ge (tgt := 45) hx hb dX11_leastTerm_14 (by decide) (fun c5 => ?_) (fun c5 => ?_)
    · have hm := g_t c5 hm
      exact hk45 x0 x2 x4 x5 m H locs ls hI (lv_sub hl [0, 1, 2, 3] rfl) hm hpm
    · have hm := g_f c5 hm
      refine lv_lload hx hb dX11_leastTerm_17 (lv_at hl 4 rfl) ?_
      refine lv_lconst (v := (0 : Int64)) hx hb dX11_leastTerm_19 (by decide) ?_
      refine W.lcmp hx hb dX11_leastTerm_20 ?_
      refine lv_if_eq (tgt := 45) hx hb dX11_leastTerm_21 (by decide) (fun c6 => ?_) (fun c6 => ?_)
      · have hm := g_t c6 hm
        exact hk45 x0 x2 x4 x5 m H locs ls hI (lv_sub hl [0, 1, 2, 3] rfl) hm hpm
      · have hm := g_f c6 hm
        refine lv_lload hx hb dX11_leastTerm_24 (lv_at hl 3 rfl) ?_
        refine lv_lload hx hb dX11_leastTerm_26 (lv_at hl 4 rfl) ?_
        obtain ⟨g7, hm⟩ := g_no hm
        refine kRemL hx hb dX11_leastTerm_28 g7 ?_
        refine lv_lstore (lv' := [(10, .long (jremL x5 x7)), (0, .long x0), (2, .long x2), (4, .int x4), (5, .long x5), (7, .long x7), (9, .int x9)]) hx hb dX11_leastTerm_29 hl (by decide) rfl (fun ls hl => ?_)
        refine lv_lload hx hb dX11_leastTerm_31 (lv_at hl 5 rfl) ?_
        refine lv_lstore (lv' := [(5, .long x7), (10, .long (jremL x5 x7)), (0, .long x0), (2, .long x2), (4, .int x4), (7, .long x7), (9, .int x9)]) hx hb dX11_leastTerm_33 hl (by decide) rfl (fun ls hl => ?_)
        refine lv_lload hx hb dX11_leastTerm_35 (lv_at hl 1 rfl) ?_
        refine lv_lstore (lv' := [(7, .long (jremL x5 x7)), (5, .long x7), (10, .long (jremL x5 x7)), (0, .long x0), (2, .long x2), (4, .int x4), (9, .int x9)]) hx hb dX11_leastTerm_37 hl (by decide) rfl (fun ls hl => ?_)
        refine lv_iinc (v := (x9 + (1 : Int32))) (lv' := [(9, .int (x9 + (1 : Int32))), (7, .long (jremL x5 x7)), (5, .long x7), (10, .long (jremL x5 x7)), (0, .long x0), (2, .long x2), (4, .int x4)]) hx hb dX11_leastTerm_39 hl (k := 6) rfl rfl (by decide) rfl (fun ls hl => ?_)
        refine lv_goto (tgt := 9) hx hb dX11_leastTerm_42 (by decide) ?_
        exact ih x0 x2 x4 x7 (jremL x5 x7) (x9 + (1 : Int32)) m H locs ls hI (lv_sub hl [4, 5, 6, 2, 1, 0] rfl) hm hpm
def fX11_leastTerm (N : Nat) (x0 : Int64) (x2 : Int64) (x4 : Int32) (m : Mem) : Option Int64 := fX11_leastTerm_9 N (fX11_leastTerm_45 N) N x0 x2 x4 x0 x2 (0 : Int32) m
set_option maxHeartbeats 4000000 in
set_option maxRecDepth 100000 in
theorem ctX11_leastTerm {l : Launch} {D : va_G} {ca : Nat → ClassId} {ad : Nat → Nat} (N : Nat) (x0 : Int64) (x2 : Int64) (x4 : Int32)  (hn : HNc ca) (m : Mem) (fin : Int64) (hm : fX11_leastTerm N x0 x2 x4 m = some fin) : CL l D ca ad yX11_leastTerm cwX11_leastTerm rmX11_leastTerm [.long x0, .long x2, .int x4] m fin m := by
  refine start (by decide) (Nat.le_of_ble_eq_true rfl) ?_
  intro p e s mm args below meth c H locs ls X hI hr hl
  have X : CX p s mm args meth c cX11_leastTerm 12 RX11 D ca ad (WA ca ad s.heap.size) := X
  have hx := X.1
  have hb := X.2.1
  have hl : lv_has ls 12 [(0, .long x0), (2, .long x2), (4, .int x4)] := hl
  have hm : (fX11_leastTerm_9 N (fX11_leastTerm_45 N) N x0 x2 x4 x0 x2 (0 : Int32) m) = some fin := hm
  have hpm : m = m := rfl
  refine lv_lload_n hx hb dX11_leastTerm_0 rfl (lv_at hl 0 rfl) ?_
  refine lv_lstore (lv' := [(5, .long x0), (0, .long x0), (2, .long x2), (4, .int x4)]) hx hb dX11_leastTerm_1 hl (by decide) rfl (fun ls hl => ?_)
  refine lv_lload_n hx hb dX11_leastTerm_3 rfl (lv_at hl 2 rfl) ?_
  refine lv_lstore (lv' := [(7, .long x2), (5, .long x0), (0, .long x0), (2, .long x2), (4, .int x4)]) hx hb dX11_leastTerm_4 hl (by decide) rfl (fun ls hl => ?_)
  refine lv_iconst (v := (0 : Int32)) hx hb dX11_leastTerm_6 (by decide) ?_
  refine lv_istore (lv' := [(9, .int (0 : Int32)), (7, .long x2), (5, .long x0), (0, .long x0), (2, .long x2), (4, .int x4)]) hx hb dX11_leastTerm_7 hl (by decide) rfl (fun ls hl => ?_)
  exact tX11_leastTerm_9 N hn X hr fin m (tX11_leastTerm_45 N hn X hr fin m ) N x0 x2 x4 x0 x2 (0 : Int32) m H locs ls hI (lv_sub hl [3, 4, 5, 2, 1, 0] rfl) hm hpm
abbrev rmX11_together : Room := { frames := 1, cells := 0, slots := 0, locals := 31 }
abbrev cwX11_together : Cond := .code yX11_together cX11_together 6 (some .int)
theorem cmX11_together : cwX11_together ∈ BIG := (tb4 (List.mem_of_getElem? (i := 235) rfl) rfl)
def fX11_together_117 (N : Nat) (x2 : Int32) (x3 : Int32) (x4 : Int32) (m : Mem) : Option Int32 := (fX11_leastTerm N x3.toInt64 x4.toInt64 x2 m).bind (fun q6 => some q6.toInt32)
set_option maxHeartbeats 4000000 in
set_option maxRecDepth 100000 in
theorem tX11_together_117 (N : Nat) {l : Launch} {D : va_G} {ca : Nat → ClassId} {ad : Nat → Nat} {p : Program} {e : Env} {s : State} {mm : MethodId} {args : Array Value} {below : List Frame} {meth : Method} {c : Code}  (hn : HNc ca) (X : CX p s mm args meth c cX11_together 6 RX11 D ca ad (WA ca ad s.heap.size)) (hr : meth.sig.returnType = (some .int)) (fin : Int32) (m0 : Mem)  : ∀ (x2 : Int32) (x3 : Int32) (x4 : Int32) (m : Mem) (H : Heap) (locs : List Loc) (ls : Array Slot), IW D ca ad (WA ca ad s.heap.size) s m H locs → lv_has ls 6 [(2, .int x2), (3, .int x3), (4, .int x4)] → fX11_together_117 N x2 x3 x4 m = some fin → m = m0 → W p l e rmX11_together s mm args below meth c H locs 0 0 (MQ below (QI D ca ad s.heap.size fin m0) args s 0 0 (WA ca ad s.heap.size)) (F0 mm 117 ls []) := by
  have hx := X.1
  have hb := X.2.1
  intro x2 x3 x4 m H locs ls hI hl hm hpm
  have hm : ((fX11_leastTerm N x3.toInt64 x4.toInt64 x2 m).bind (fun q6 => some q6.toInt32)) = some fin := hm
  refine lv_iload_n hx hb dX11_together_117 rfl (lv_at hl 1 rfl) ?_
  refine lv_i2l hx hb dX11_together_118 rfl ?_
  refine lv_iload hx hb dX11_together_119 (lv_at hl 2 rfl) ?_
  refine lv_i2l hx hb dX11_together_121 rfl ?_
  refine lv_iload_n hx hb dX11_together_122 rfl (lv_at hl 0 rfl) ?_
  obtain ⟨q6, h7, hm⟩ := g_b hm
  refine backL X hI (runS X hI (ctX11_leastTerm N x3.toInt64 x4.toInt64 x2  hn _ _ h7 _) msX11_253 ⟨rfl, rfl⟩ ⟨Nat.le_of_ble_eq_true rfl, Nat.le_of_ble_eq_true rfl⟩ rfl hl.1 rfl (Nat.le_of_ble_eq_true rfl) dX11_together_123) (fun H locs hI => ?_)
  refine lv_l2i hx hb dX11_together_126 rfl ?_
  exact rI X hI hr (g_1 hm) hpm dX11_together_127
def fX11_together_40 (N : Nat) (k117 : Int32 → Int32 → Int32 → Mem → Option Int32) : Nat → Int32 → Int32 → Int32 → Int32 → Int32 → Mem → Option Int32
  | 0, _, _, _, _, _, _ => none
  | n + 1, x1, x2, x3, x4, x5, m => if lay (m.2.2 3) = (0, 6) then (if (m.1 ((m.2.2 3) + 3) 2) ≤ x5 then (k117 x2 x3 x4 m) else (if (6 : Int32) ≤ x5 then (k117 x2 x3 x4 m) else (if ((x1 >>> (x5 &&& 31)) &&& (1 : Int32)) = (1 : Int32) then (if x5 < 0 ∨ 6 ≤ x5.toNatClampNeg then none else (if x5 < 0 ∨ 6 ≤ x5.toNatClampNeg then none else (if x5 < 0 ∨ 6 ≤ x5.toNatClampNeg then none else (fX11_together_40 N k117 n x1 x2 (x3 + ((m.1 44 x5.toNatClampNeg) * (m.1 45 x5.toNatClampNeg))) (x4 + (m.1 44 x5.toNatClampNeg)) (x5 + (1 : Int32)) m)))) else (fX11_together_40 N k117 n x1 x2 x3 x4 (x5 + (1 : Int32)) m)))) else none
set_option maxHeartbeats 4000000 in
set_option maxRecDepth 100000 in
theorem tX11_together_40 (N : Nat) {l : Launch} {D : va_G} {ca : Nat → ClassId} {ad : Nat → Nat} {p : Program} {e : Env} {s : State} {mm : MethodId} {args : Array Value} {below : List Frame} {meth : Method} {c : Code} {k117 : Int32 → Int32 → Int32 → Mem → Option Int32} (hn : HNc ca) (X : CX p s mm args meth c cX11_together 6 RX11 D ca ad (WA ca ad s.heap.size)) (hr : meth.sig.returnType = (some .int)) (fin : Int32) (m0 : Mem) (hk117 : ∀ (x2 : Int32) (x3 : Int32) (x4 : Int32) (m : Mem) (H : Heap) (locs : List Loc) (ls : Array Slot), IW D ca ad (WA ca ad s.heap.size) s m H locs → lv_has ls 6 [(2, .int x2), (3, .int x3), (4, .int x4)] → k117 x2 x3 x4 m = some fin → m = m0 → W p l e rmX11_together s mm args below meth c H locs 0 0 (MQ below (QI D ca ad s.heap.size fin m0) args s 0 0 (WA ca ad s.heap.size)) (F0 mm 117 ls [])) : ∀ (n : Nat) (x1 : Int32) (x2 : Int32) (x3 : Int32) (x4 : Int32) (x5 : Int32) (m : Mem) (H : Heap) (locs : List Loc) (ls : Array Slot), IW D ca ad (WA ca ad s.heap.size) s m H locs → lv_has ls 6 [(0, .ref (ad 0)), (1, .int x1), (2, .int x2), (3, .int x3), (4, .int x4), (5, .int x5)] → fX11_together_40 N k117 n x1 x2 x3 x4 x5 m = some fin → m = m0 → W p l e rmX11_together s mm args below meth c H locs 0 0 (MQ below (QI D ca ad s.heap.size fin m0) args s 0 0 (WA ca ad s.heap.size)) (F0 mm 40 ls []) := by
  have hx := X.1
  have hb := X.2.1
  intro n
  induction n with
  | zero => intro x1 x2 x3 x4 x5 m H locs ls hI hl hm hpm
            exact absurd hm (by intro q; cases q)
  | succ n ih =>
    intro x1 x2 x3 x4 x5 m H locs ls hI hl hm hpm
    have hm : (if lay (m.2.2 3) = (0, 6) then (if (m.1 ((m.2.2 3) + 3) 2) ≤ x5 then (k117 x2 x3 x4 m) else (if (6 : Int32) ≤ x5 then (k117 x2 x3 x4 m) else (if ((x1 >>> (x5 &&& 31)) &&& (1 : Int32)) = (1 : Int32) then (if x5 < 0 ∨ 6 ≤ x5.toNatClampNeg then none else (if x5 < 0 ∨ 6 ≤ x5.toNatClampNeg then none else (if x5 < 0 ∨ 6 ≤ x5.toNatClampNeg then none else (fX11_together_40 N k117 n x1 x2 (x3 + ((m.1 44 x5.toNatClampNeg) * (m.1 45 x5.toNatClampNeg))) (x4 + (m.1 44 x5.toNatClampNeg)) (x5 + (1 : Int32)) m)))) else (fX11_together_40 N k117 n x1 x2 x3 x4 (x5 + (1 : Int32)) m)))) else none) = some fin := hm
    refine lv_iload hx hb dX11_together_40 (lv_at hl 5 rfl) ?_
    refine lv_aload_n hx hb dX11_together_42 rfl (lv_at hl 0 rfl) ?_
    obtain ⟨g8, hm⟩ := g_is hm
    refine gR X hI fdX11_27 (la_0 hn) rf11_3 dX11_together_43 ?_
    refine gR X hI fdX11_125 (lyO hn g8) rf6_1 dX11_together_46 ?_
    refine gI X hI fdX11_239 (lf6_1 hn (lyO hn g8)) dX11_together_49 ?_
    refine lv_icmp_ge (tgt := 117) hx hb dX11_together_52 (by decide) (fun c9 => ?_) (fun c9 => ?_)
    · have hm := g_t c9 hm
      exact hk117 x2 x3 x4 m H locs ls hI (lv_sub hl [2, 3, 4] rfl) hm hpm
    · have hm := g_f c9 hm
      refine lv_iload hx hb dX11_together_55 (lv_at hl 5 rfl) ?_
      refine lv_bipush (v := (6 : Int32)) hx hb dX11_together_57 (by decide) ?_
      refine lv_icmp_ge (tgt := 117) hx hb dX11_together_59 (by decide) (fun c10 => ?_) (fun c10 => ?_)
      · have hm := g_t c10 hm
        exact hk117 x2 x3 x4 m H locs ls hI (lv_sub hl [2, 3, 4] rfl) hm hpm
      · have hm := g_f c10 hm
        refine lv_iload_n hx hb dX11_together_62 rfl (lv_at hl 1 rfl) ?_
        refine lv_iload hx hb dX11_together_63 (lv_at hl 5 rfl) ?_
        refine lv_ishr hx hb dX11_together_65 ?_
        refine lv_iconst (v := (1 : Int32)) hx hb dX11_together_66 (by decide) ?_
        refine lv_iand hx hb dX11_together_67 ?_
        refine lv_iconst (v := (1 : Int32)) hx hb dX11_together_68 (by decide) ?_
        refine lv_icmp_ne (tgt := 111) hx hb dX11_together_69 (by decide) (fun c11 => ?_) (fun c11 => ?_)
        · have hm := g_f c11 hm
          refine lv_iinc (v := (x5 + (1 : Int32))) (lv' := [(5, .int (x5 + (1 : Int32))), (0, .ref (ad 0)), (1, .int x1), (2, .int x2), (3, .int x3), (4, .int x4)]) hx hb dX11_together_111 hl (k := 5) rfl rfl (by decide) rfl (fun ls hl => ?_)
          refine lv_goto (tgt := 40) hx hb dX11_together_114 (by decide) ?_
          exact ih x1 x2 x3 x4 (x5 + (1 : Int32)) m H locs ls hI (lv_sub hl [1, 2, 3, 4, 5, 0] rfl) hm hpm
        · have hm := g_t c11 hm
          refine lv_iload_n hx hb dX11_together_72 rfl (lv_at hl 3 rfl) ?_
          refine lv_aload_n hx hb dX11_together_73 rfl (lv_at hl 0 rfl) ?_
          refine gR X hI fdX11_37 (la_0 hn) rf11_5 dX11_together_74 ?_
          refine gR X hI fdX11_139 (la_43 hn) rf0_0 dX11_together_77 ?_
          refine lv_iload hx hb dX11_together_80 (lv_at hl 5 rfl) ?_
          obtain ⟨g12, hm⟩ := g_no hm
          refine aI X hI (la_44 hn) g12 dX11_together_82 ?_
          refine lv_aload_n hx hb dX11_together_83 rfl (lv_at hl 0 rfl) ?_
          refine gR X hI fdX11_37 (la_0 hn) rf11_5 dX11_together_84 ?_
          refine gR X hI fdX11_143 (la_43 hn) rf0_1 dX11_together_87 ?_
          refine lv_iload hx hb dX11_together_90 (lv_at hl 5 rfl) ?_
          obtain ⟨g13, hm⟩ := g_no hm
          refine aI X hI (la_45 hn) g13 dX11_together_92 ?_
          refine lv_imul hx hb dX11_together_93 ?_
          refine lv_iadd hx hb dX11_together_94 ?_
          refine lv_istore_n (lv' := [(3, .int (x3 + ((m.1 44 x5.toNatClampNeg) * (m.1 45 x5.toNatClampNeg)))), (0, .ref (ad 0)), (1, .int x1), (2, .int x2), (4, .int x4), (5, .int x5)]) hx hb dX11_together_95 rfl hl (by decide) rfl (fun ls hl => ?_)
          refine lv_iload hx hb dX11_together_96 (lv_at hl 4 rfl) ?_
          refine lv_aload_n hx hb dX11_together_98 rfl (lv_at hl 1 rfl) ?_
          refine gR X hI fdX11_37 (la_0 hn) rf11_5 dX11_together_99 ?_
          refine gR X hI fdX11_139 (la_43 hn) rf0_0 dX11_together_102 ?_
          refine lv_iload hx hb dX11_together_105 (lv_at hl 5 rfl) ?_
          obtain ⟨g14, hm⟩ := g_no hm
          refine aI X hI (la_44 hn) g14 dX11_together_107 ?_
          refine lv_iadd hx hb dX11_together_108 ?_
          refine lv_istore (lv' := [(4, .int (x4 + (m.1 44 x5.toNatClampNeg))), (3, .int (x3 + ((m.1 44 x5.toNatClampNeg) * (m.1 45 x5.toNatClampNeg)))), (0, .ref (ad 0)), (1, .int x1), (2, .int x2), (5, .int x5)]) hx hb dX11_together_109 hl (by decide) rfl (fun ls hl => ?_)
          refine lv_iinc (v := (x5 + (1 : Int32))) (lv' := [(5, .int (x5 + (1 : Int32))), (4, .int (x4 + (m.1 44 x5.toNatClampNeg))), (3, .int (x3 + ((m.1 44 x5.toNatClampNeg) * (m.1 45 x5.toNatClampNeg)))), (0, .ref (ad 0)), (1, .int x1), (2, .int x2)]) hx hb dX11_together_111 hl (k := 5) rfl rfl (by decide) rfl (fun ls hl => ?_)
          refine lv_goto (tgt := 40) hx hb dX11_together_114 (by decide) ?_
          exact ih x1 x2 (x3 + ((m.1 44 x5.toNatClampNeg) * (m.1 45 x5.toNatClampNeg))) (x4 + (m.1 44 x5.toNatClampNeg)) (x5 + (1 : Int32)) m H locs ls hI (lv_sub hl [3, 4, 5, 2, 1, 0] rfl) hm hpm
def fX11_together (N : Nat) (x1 : Int32) (x2 : Int32) (m : Mem) : Option Int32 := if x1 < (1 : Int32) then (some (-1 : Int32)) else (if lay (m.2.2 3) = (0, 6) then (if ((1 : Int32) <<< ((m.1 ((m.2.2 3) + 3) 2) &&& 31)) ≤ x1 then (some (-1 : Int32)) else (if x2 < 0 then (some (-1 : Int32)) else (if x2 ≤ (1 : Int32) then (fX11_together_40 N (fX11_together_117 N) N x1 x2 (0 : Int32) (0 : Int32) (0 : Int32) m) else (some (-1 : Int32))))) else none)
set_option maxHeartbeats 4000000 in
set_option maxRecDepth 100000 in
theorem ctX11_together {l : Launch} {D : va_G} {ca : Nat → ClassId} {ad : Nat → Nat} (N : Nat) (x1 : Int32) (x2 : Int32)  (hn : HNc ca) (m : Mem) (fin : Int32) (hm : fX11_together N x1 x2 m = some fin) : CI l D ca ad yX11_together cwX11_together rmX11_together [.ref (ad 0), .int x1, .int x2] m fin m := by
  refine start (by decide) (Nat.le_of_ble_eq_true rfl) ?_
  intro p e s mm args below meth c H locs ls X hI hr hl
  have X : CX p s mm args meth c cX11_together 6 RX11 D ca ad (WA ca ad s.heap.size) := X
  have hx := X.1
  have hb := X.2.1
  have hl : lv_has ls 6 [(0, .ref (ad 0)), (1, .int x1), (2, .int x2)] := hl
  have hm : (if x1 < (1 : Int32) then (some (-1 : Int32)) else (if lay (m.2.2 3) = (0, 6) then (if ((1 : Int32) <<< ((m.1 ((m.2.2 3) + 3) 2) &&& 31)) ≤ x1 then (some (-1 : Int32)) else (if x2 < 0 then (some (-1 : Int32)) else (if x2 ≤ (1 : Int32) then (fX11_together_40 N (fX11_together_117 N) N x1 x2 (0 : Int32) (0 : Int32) (0 : Int32) m) else (some (-1 : Int32))))) else none)) = some fin := hm
  have hpm : m = m := rfl
  refine lv_iload_n hx hb dX11_together_0 rfl (lv_at hl 1 rfl) ?_
  refine lv_iconst (v := (1 : Int32)) hx hb dX11_together_1 (by decide) ?_
  refine lv_icmp_lt (tgt := 30) hx hb dX11_together_2 (by decide) (fun c1 => ?_) (fun c1 => ?_)
  · have hm := g_t c1 hm
    refine lv_iconst (v := (-1 : Int32)) hx hb dX11_together_30 (by decide) ?_
    exact rI X hI hr (g_1 hm) hpm dX11_together_31
  · have hm := g_f c1 hm
    refine lv_iload_n hx hb dX11_together_5 rfl (lv_at hl 1 rfl) ?_
    refine lv_iconst (v := (1 : Int32)) hx hb dX11_together_6 (by decide) ?_
    refine lv_aload_n hx hb dX11_together_7 rfl (lv_at hl 0 rfl) ?_
    obtain ⟨g2, hm⟩ := g_is hm
    refine gR X hI fdX11_27 (la_0 hn) rf11_3 dX11_together_8 ?_
    refine gR X hI fdX11_125 (lyO hn g2) rf6_1 dX11_together_11 ?_
    refine gI X hI fdX11_239 (lf6_1 hn (lyO hn g2)) dX11_together_14 ?_
    refine lv_ishl hx hb dX11_together_17 ?_
    refine lv_icmp_ge (tgt := 30) hx hb dX11_together_18 (by decide) (fun c3 => ?_) (fun c3 => ?_)
    · have hm := g_t c3 hm
      refine lv_iconst (v := (-1 : Int32)) hx hb dX11_together_30 (by decide) ?_
      exact rI X hI hr (g_1 hm) hpm dX11_together_31
    · have hm := g_f c3 hm
      refine lv_iload_n hx hb dX11_together_21 rfl (lv_at hl 2 rfl) ?_
      refine lv_if_lt (tgt := 30) hx hb dX11_together_22 (by decide) (fun c4 => ?_) (fun c4 => ?_)
      · have hm := g_t c4 hm
        refine lv_iconst (v := (-1 : Int32)) hx hb dX11_together_30 (by decide) ?_
        exact rI X hI hr (g_1 hm) hpm dX11_together_31
      · have hm := g_f c4 hm
        refine lv_iload_n hx hb dX11_together_25 rfl (lv_at hl 2 rfl) ?_
        refine lv_iconst (v := (1 : Int32)) hx hb dX11_together_26 (by decide) ?_
        refine lv_icmp_le (tgt := 32) hx hb dX11_together_27 (by decide) (fun c5 => ?_) (fun c5 => ?_)
        · have hm := g_t c5 hm
          refine lv_iconst (v := (0 : Int32)) hx hb dX11_together_32 (by decide) ?_
          refine lv_istore_n (lv' := [(3, .int (0 : Int32)), (0, .ref (ad 0)), (1, .int x1), (2, .int x2)]) hx hb dX11_together_33 rfl hl (by decide) rfl (fun ls hl => ?_)
          refine lv_iconst (v := (0 : Int32)) hx hb dX11_together_34 (by decide) ?_
          refine lv_istore (lv' := [(4, .int (0 : Int32)), (3, .int (0 : Int32)), (0, .ref (ad 0)), (1, .int x1), (2, .int x2)]) hx hb dX11_together_35 hl (by decide) rfl (fun ls hl => ?_)
          refine lv_iconst (v := (0 : Int32)) hx hb dX11_together_37 (by decide) ?_
          refine lv_istore (lv' := [(5, .int (0 : Int32)), (4, .int (0 : Int32)), (3, .int (0 : Int32)), (0, .ref (ad 0)), (1, .int x1), (2, .int x2)]) hx hb dX11_together_38 hl (by decide) rfl (fun ls hl => ?_)
          exact tX11_together_40 N hn X hr fin m (tX11_together_117 N hn X hr fin m ) N x1 x2 (0 : Int32) (0 : Int32) (0 : Int32) m H locs ls hI (lv_sub hl [3, 4, 5, 2, 1, 0] rfl) hm hpm
        · have hm := g_f c5 hm
          refine lv_iconst (v := (-1 : Int32)) hx hb dX11_together_30 (by decide) ?_
          exact rI X hI hr (g_1 hm) hpm dX11_together_31
abbrev rmX11_match : Room := { frames := 5, cells := 0, slots := 0, locals := 131 }
abbrev cwX11_match : Cond := .code yX11_match cX11_match 2 (some .int)
theorem cmX11_match : cwX11_match ∈ BIG := (tb5 (List.mem_of_getElem? (i := 3) rfl) rfl)
def fX11_match (N : Nat) (x1 : Int32) (m : Mem) : Option (Int32 × Mem) := if x1 < 0 then (some ((-1 : Int32), m)) else (if x1 ≤ (7 : Int32) then (if lay (m.2.2 3) = (0, 6) then ((fX4_find N (m.2.2 3) 43 m).bind (fun q4 => if (6 : Int32) ≤ x1 then (if x1 = (6 : Int32) then (some ((q4.1 95 3), q4)) else (some ((q4.1 95 4), q4))) else (if x1 < 0 ∨ 6 ≤ x1.toNatClampNeg then none else (some ((q4.1 98 x1.toNatClampNeg), q4))))) else none) else (some ((-1 : Int32), m)))
set_option maxHeartbeats 4000000 in
set_option maxRecDepth 100000 in
theorem ctX11_match {l : Launch} {D : va_G} {ca : Nat → ClassId} {ad : Nat → Nat} (N : Nat) (x1 : Int32)  (hn : HNc ca) (m : Mem) (fin : (Int32 × Mem)) (hm : fX11_match N x1 m = some fin) : CI l D ca ad yX11_match cwX11_match rmX11_match [.ref (ad 0), .int x1] m fin.1 fin.2 := by
  refine start (by decide) (Nat.le_of_ble_eq_true rfl) ?_
  intro p e s mm args below meth c H locs ls X hI hr hl
  have X : CX p s mm args meth c cX11_match 2 RX11 D ca ad (WA ca ad s.heap.size) := X
  have hx := X.1
  have hb := X.2.1
  have hl : lv_has ls 2 [(0, .ref (ad 0)), (1, .int x1)] := hl
  have hm : (if x1 < 0 then (some ((-1 : Int32), m)) else (if x1 ≤ (7 : Int32) then (if lay (m.2.2 3) = (0, 6) then ((fX4_find N (m.2.2 3) 43 m).bind (fun q4 => if (6 : Int32) ≤ x1 then (if x1 = (6 : Int32) then (some ((q4.1 95 3), q4)) else (some ((q4.1 95 4), q4))) else (if x1 < 0 ∨ 6 ≤ x1.toNatClampNeg then none else (some ((q4.1 98 x1.toNatClampNeg), q4))))) else none) else (some ((-1 : Int32), m)))) = some fin := hm
  refine lv_iload_n hx hb dX11_match_0 rfl (lv_at hl 1 rfl) ?_
  refine lv_if_lt (tgt := 10) hx hb dX11_match_1 (by decide) (fun c1 => ?_) (fun c1 => ?_)
  · have hm := g_t c1 hm
    refine lv_iconst (v := (-1 : Int32)) hx hb dX11_match_10 (by decide) ?_
    exact rI X hI hr (g_p hm).1 (g_p hm).2 dX11_match_11
  · have hm := g_f c1 hm
    refine lv_iload_n hx hb dX11_match_4 rfl (lv_at hl 1 rfl) ?_
    refine lv_bipush (v := (7 : Int32)) hx hb dX11_match_5 (by decide) ?_
    refine lv_icmp_le (tgt := 12) hx hb dX11_match_7 (by decide) (fun c2 => ?_) (fun c2 => ?_)
    · have hm := g_t c2 hm
      refine lv_aload_n hx hb dX11_match_12 rfl (lv_at hl 0 rfl) ?_
      refine gR X hI fdX11_78 (la_0 hn) rf11_13 dX11_match_13 ?_
      refine lv_aload_n hx hb dX11_match_16 rfl (lv_at hl 0 rfl) ?_
      obtain ⟨g3, hm⟩ := g_is hm
      refine gR X hI fdX11_27 (la_0 hn) rf11_3 dX11_match_17 ?_
      refine lv_aload_n hx hb dX11_match_20 rfl (lv_at hl 0 rfl) ?_
      refine gR X hI fdX11_37 (la_0 hn) rf11_5 dX11_match_21 ?_
      obtain ⟨q4, h5, hm⟩ := g_b hm
      refine backV X hI (runV X hI (ctX4_find N (m.2.2 3) 43 (lyO hn g3) (la_43 hn) hn _ _ h5 _) mdX11_259 (la_95 hn) rfl ⟨rfl, rfl⟩ ⟨Nat.le_of_ble_eq_true rfl, Nat.le_of_ble_eq_true rfl⟩ rfl hl.1 rfl (Nat.le_of_ble_eq_true rfl) dX11_match_24) (fun H locs hI => ?_)
      refine lv_iload_n hx hb dX11_match_27 rfl (lv_at hl 1 rfl) ?_
      refine lv_bipush (v := (6 : Int32)) hx hb dX11_match_28 (by decide) ?_
      refine lv_icmp_ge (tgt := 43) hx hb dX11_match_30 (by decide) (fun c6 => ?_) (fun c6 => ?_)
      · have hm := g_t c6 hm
        refine lv_iload_n hx hb dX11_match_43 rfl (lv_at hl 1 rfl) ?_
        refine lv_bipush (v := (6 : Int32)) hx hb dX11_match_44 (by decide) ?_
        refine lv_icmp_ne (tgt := 59) hx hb dX11_match_46 (by decide) (fun c7 => ?_) (fun c7 => ?_)
        · have hm := g_f c7 hm
          refine lv_aload_n hx hb dX11_match_59 rfl (lv_at hl 0 rfl) ?_
          refine gR X hI fdX11_78 (la_0 hn) rf11_13 dX11_match_60 ?_
          refine gI X hI fdX11_267 (la_95 hn) dX11_match_63 ?_
          exact rI X hI hr (g_p hm).1 (g_p hm).2 dX11_match_66
        · have hm := g_t c7 hm
          refine lv_aload_n hx hb dX11_match_49 rfl (lv_at hl 0 rfl) ?_
          refine gR X hI fdX11_78 (la_0 hn) rf11_13 dX11_match_50 ?_
          refine gI X hI fdX11_264 (la_95 hn) dX11_match_53 ?_
          refine lv_goto (tgt := 66) hx hb dX11_match_56 (by decide) ?_
          exact rI X hI hr (g_p hm).1 (g_p hm).2 dX11_match_66
      · have hm := g_f c6 hm
        refine lv_aload_n hx hb dX11_match_33 rfl (lv_at hl 0 rfl) ?_
        refine gR X hI fdX11_78 (la_0 hn) rf11_13 dX11_match_34 ?_
        refine gR X hI fdX11_261 (la_95 hn) rf4_2 dX11_match_37 ?_
        refine lv_iload_n hx hb dX11_match_40 rfl (lv_at hl 1 rfl) ?_
        obtain ⟨g8, hm⟩ := g_no hm
        refine aI X hI (la_98 hn) g8 dX11_match_41 ?_
        exact rI X hI hr (g_p hm).1 (g_p hm).2 dX11_match_42
    · have hm := g_f c2 hm
      refine lv_iconst (v := (-1 : Int32)) hx hb dX11_match_10 (by decide) ?_
      exact rI X hI hr (g_p hm).1 (g_p hm).2 dX11_match_11
abbrev rmX11_winningLitres : Room := { frames := 2, cells := 0, slots := 0, locals := 43 }
def fX11_winningLitres_58 (N : Nat) (k26 : Int32 → Int32 → Int32 → Int32 → Int32 → Int32 → Int32 → Mem → Option Int32) (x1 : Int32) (x2 : Int32) (x3 : Int32) (x4 : Int32) (x7 : Int32) (y0 : Int32) (m : Mem) : Option Int32 := (fX0_mixedHeat 43 x1 x7 (990 : Int32) m).bind (fun q6 => if q6 ≤ x2 then (k26 x1 x2 y0 x3 x4 y0 (x7 + (-1 : Int32)) m) else (k26 x1 x2 (1 : Int32) x3 x4 y0 (x7 + (-1 : Int32)) m))
set_option maxHeartbeats 4000000 in
set_option maxRecDepth 100000 in
theorem tX11_winningLitres_58 (N : Nat) {l : Launch} {D : va_G} {ca : Nat → ClassId} {ad : Nat → Nat} {p : Program} {e : Env} {s : State} {mm : MethodId} {args : Array Value} {below : List Frame} {meth : Method} {c : Code} {k26 : Int32 → Int32 → Int32 → Int32 → Int32 → Int32 → Int32 → Mem → Option Int32} (hn : HNc ca) (X : CX p s mm args meth c cX11_winningLitres 8 RX11 D ca ad (WA ca ad s.heap.size)) (hr : meth.sig.returnType = (some .int)) (fin : Int32) (m0 : Mem) (hk26 : ∀ (x1 : Int32) (x2 : Int32) (x3 : Int32) (x4 : Int32) (x5 : Int32) (x6 : Int32) (x7 : Int32) (m : Mem) (H : Heap) (locs : List Loc) (ls : Array Slot), IW D ca ad (WA ca ad s.heap.size) s m H locs → lv_has ls 8 [(0, .ref (ad 0)), (1, .int x1), (2, .int x2), (3, .int x3), (4, .int x4), (5, .int x5), (6, .int x6), (7, .int x7)] → k26 x1 x2 x3 x4 x5 x6 x7 m = some fin → m = m0 → W p l e rmX11_winningLitres s mm args below meth c H locs 0 0 (MQ below (QI D ca ad s.heap.size fin m0) args s 0 0 (WA ca ad s.heap.size)) (F0 mm 26 ls [])) : ∀ (x1 : Int32) (x2 : Int32) (x3 : Int32) (x4 : Int32) (x7 : Int32) (y0 : Int32) (m : Mem) (H : Heap) (locs : List Loc) (ls : Array Slot), IW D ca ad (WA ca ad s.heap.size) s m H locs → lv_has ls 8 [(0, .ref (ad 0)), (1, .int x1), (2, .int x2), (3, .int x3), (4, .int x4), (7, .int x7)] → fX11_winningLitres_58 N k26 x1 x2 x3 x4 x7 y0 m = some fin → m = m0 → W p l e rmX11_winningLitres s mm args below meth c H locs 0 0 (MQ below (QI D ca ad s.heap.size fin m0) args s 0 0 (WA ca ad s.heap.size)) (F0 mm 58 ls [.int y0]) := by
  have hx := X.1
  have hb := X.2.1
  intro x1 x2 x3 x4 x7 y0 m H locs ls hI hl hm hpm
  have hm : ((fX0_mixedHeat 43 x1 x7 (990 : Int32) m).bind (fun q6 => if q6 ≤ x2 then (k26 x1 x2 y0 x3 x4 y0 (x7 + (-1 : Int32)) m) else (k26 x1 x2 (1 : Int32) x3 x4 y0 (x7 + (-1 : Int32)) m))) = some fin := hm
  refine lv_istore (lv' := [(6, .int y0), (0, .ref (ad 0)), (1, .int x1), (2, .int x2), (3, .int x3), (4, .int x4), (7, .int x7)]) hx hb dX11_winningLitres_58 hl (by decide) rfl (fun ls hl => ?_)
  refine lv_iload hx hb dX11_winningLitres_60 (lv_at hl 5 rfl) ?_
  refine lv_istore (lv' := [(5, .int x4), (6, .int y0), (0, .ref (ad 0)), (1, .int x1), (2, .int x2), (3, .int x3), (4, .int x4), (7, .int x7)]) hx hb dX11_winningLitres_62 hl (by decide) rfl (fun ls hl => ?_)
  refine lv_iload_n hx hb dX11_winningLitres_64 rfl (lv_at hl 5 rfl) ?_
  refine lv_istore (lv' := [(4, .int x3), (5, .int x4), (6, .int y0), (0, .ref (ad 0)), (1, .int x1), (2, .int x2), (3, .int x3), (7, .int x7)]) hx hb dX11_winningLitres_65 hl (by decide) rfl (fun ls hl => ?_)
  refine lv_aload_n hx hb dX11_winningLitres_67 rfl (lv_at hl 3 rfl) ?_
  refine gR X hI fdX11_37 (la_0 hn) rf11_5 dX11_winningLitres_68 ?_
  refine lv_iload_n hx hb dX11_winningLitres_71 rfl (lv_at hl 4 rfl) ?_
  refine lv_iload hx hb dX11_winningLitres_72 (lv_at hl 7 rfl) ?_
  refine lv_sipush (v := (990 : Int32)) hx hb dX11_winningLitres_74 (by decide) ?_
  obtain ⟨q6, h7, hm⟩ := g_b hm
  refine backI X hI (runV X hI (ctX0_mixedHeat 43 x1 x7 (990 : Int32) (la_43 hn) hn _ _ h7 _) mdX11_249 (la_43 hn) rfl ⟨rfl, rfl⟩ ⟨Nat.le_of_ble_eq_true rfl, Nat.le_of_ble_eq_true rfl⟩ rfl hl.1 rfl (Nat.le_of_ble_eq_true rfl) dX11_winningLitres_77) (fun H locs hI => ?_)
  refine lv_iload_n hx hb dX11_winningLitres_80 rfl (lv_at hl 5 rfl) ?_
  refine lv_icmp_le (tgt := 88) hx hb dX11_winningLitres_81 (by decide) (fun c8 => ?_) (fun c8 => ?_)
  · have hm := g_t c8 hm
    refine lv_iload hx hb dX11_winningLitres_88 (lv_at hl 2 rfl) ?_
    refine lv_istore_n (lv' := [(3, .int y0), (4, .int x3), (5, .int x4), (6, .int y0), (0, .ref (ad 0)), (1, .int x1), (2, .int x2), (7, .int x7)]) hx hb dX11_winningLitres_90 rfl hl (by decide) rfl (fun ls hl => ?_)
    refine lv_iinc (v := (x7 + (-1 : Int32))) (lv' := [(7, .int (x7 + (-1 : Int32))), (3, .int y0), (4, .int x3), (5, .int x4), (6, .int y0), (0, .ref (ad 0)), (1, .int x1), (2, .int x2)]) hx hb dX11_winningLitres_91 hl (k := 7) rfl rfl (by decide) rfl (fun ls hl => ?_)
    refine lv_goto (tgt := 26) hx hb dX11_winningLitres_94 (by decide) ?_
    exact hk26 x1 x2 y0 x3 x4 y0 (x7 + (-1 : Int32)) m H locs ls hI (lv_sub hl [5, 6, 7, 1, 2, 3, 4, 0] rfl) hm hpm
  · have hm := g_f c8 hm
    refine lv_iconst (v := (1 : Int32)) hx hb dX11_winningLitres_84 (by decide) ?_
    refine lv_goto (tgt := 90) hx hb dX11_winningLitres_85 (by decide) ?_
    refine lv_istore_n (lv' := [(3, .int (1 : Int32)), (4, .int x3), (5, .int x4), (6, .int y0), (0, .ref (ad 0)), (1, .int x1), (2, .int x2), (7, .int x7)]) hx hb dX11_winningLitres_90 rfl hl (by decide) rfl (fun ls hl => ?_)
    refine lv_iinc (v := (x7 + (-1 : Int32))) (lv' := [(7, .int (x7 + (-1 : Int32))), (3, .int (1 : Int32)), (4, .int x3), (5, .int x4), (6, .int y0), (0, .ref (ad 0)), (1, .int x1), (2, .int x2)]) hx hb dX11_winningLitres_91 hl (k := 7) rfl rfl (by decide) rfl (fun ls hl => ?_)
    refine lv_goto (tgt := 26) hx hb dX11_winningLitres_94 (by decide) ?_
    exact hk26 x1 x2 (1 : Int32) x3 x4 y0 (x7 + (-1 : Int32)) m H locs ls hI (lv_sub hl [5, 6, 7, 1, 2, 3, 4, 0] rfl) hm hpm
def fX11_winningLitres_26 (N : Nat) : Nat → Int32 → Int32 → Int32 → Int32 → Int32 → Int32 → Int32 → Mem → Option Int32
  | 0, _, _, _, _, _, _, _, _ => none
  | n + 1, x1, x2, x3, x4, x5, x6, x7, m => if x7 < 0 then (some x6) else (if x3 = 0 then (fX11_winningLitres_58 N (fun x1 x2 x3 x4 x5 x6 x7 m => fX11_winningLitres_26 N n x1 x2 x3 x4 x5 x6 x7 m) x1 x2 x3 x4 x7 (1 : Int32) m) else (if x4 = 0 then (fX11_winningLitres_58 N (fun x1 x2 x3 x4 x5 x6 x7 m => fX11_winningLitres_26 N n x1 x2 x3 x4 x5 x6 x7 m) x1 x2 x3 x4 x7 (2 : Int32) m) else (if x5 = 0 then (fX11_winningLitres_58 N (fun x1 x2 x3 x4 x5 x6 x7 m => fX11_winningLitres_26 N n x1 x2 x3 x4 x5 x6 x7 m) x1 x2 x3 x4 x7 (3 : Int32) m) else (fX11_winningLitres_58 N (fun x1 x2 x3 x4 x5 x6 x7 m => fX11_winningLitres_26 N n x1 x2 x3 x4 x5 x6 x7 m) x1 x2 x3 x4 x7 (0 : Int32) m))))
set_option maxHeartbeats 4000000 in
set_option maxRecDepth 100000 in
theorem tX11_winningLitres_26 (N : Nat) {l : Launch} {D : va_G} {ca : Nat → ClassId} {ad : Nat → Nat} {p : Program} {e : Env} {s : State} {mm : MethodId} {args : Array Value} {below : List Frame} {meth : Method} {c : Code}  (hn : HNc ca) (X : CX p s mm args meth c cX11_winningLitres 8 RX11 D ca ad (WA ca ad s.heap.size)) (hr : meth.sig.returnType = (some .int)) (fin : Int32) (m0 : Mem)  : ∀ (n : Nat) (x1 : Int32) (x2 : Int32) (x3 : Int32) (x4 : Int32) (x5 : Int32) (x6 : Int32) (x7 : Int32) (m : Mem) (H : Heap) (locs : List Loc) (ls : Array Slot), IW D ca ad (WA ca ad s.heap.size) s m H locs → lv_has ls 8 [(0, .ref (ad 0)), (1, .int x1), (2, .int x2), (3, .int x3), (4, .int x4), (5, .int x5), (6, .int x6), (7, .int x7)] → fX11_winningLitres_26 N n x1 x2 x3 x4 x5 x6 x7 m = some fin → m = m0 → W p l e rmX11_winningLitres s mm args below meth c H locs 0 0 (MQ below (QI D ca ad s.heap.size fin m0) args s 0 0 (WA ca ad s.heap.size)) (F0 mm 26 ls []) := by
  have hx := X.1
  have hb := X.2.1
  intro n
  induction n with
  | zero => intro x1 x2 x3 x4 x5 x6 x7 m H locs ls hI hl hm hpm
            exact absurd hm (by intro q; cases q)
  | succ n ih =>
    intro x1 x2 x3 x4 x5 x6 x7 m H locs ls hI hl hm hpm
    have hm : (if x7 < 0 then (some x6) else (if x3 = 0 then (fX11_winningLitres_58 N (fun x1 x2 x3 x4 x5 x6 x7 m => fX11_winningLitres_26 N n x1 x2 x3 x4 x5 x6 x7 m) x1 x2 x3 x4 x7 (1 : Int32) m) else (if x4 = 0 then (fX11_winningLitres_58 N (fun x1 x2 x3 x4 x5 x6 x7 m => fX11_winningLitres_26 N n x1 x2 x3 x4 x5 x6 x7 m) x1 x2 x3 x4 x7 (2 : Int32) m) else (if x5 = 0 then (fX11_winningLitres_58 N (fun x1 x2 x3 x4 x5 x6 x7 m => fX11_winningLitres_26 N n x1 x2 x3 x4 x5 x6 x7 m) x1 x2 x3 x4 x7 (3 : Int32) m) else (fX11_winningLitres_58 N (fun x1 x2 x3 x4 x5 x6 x7 m => fX11_winningLitres_26 N n x1 x2 x3 x4 x5 x6 x7 m) x1 x2 x3 x4 x7 (0 : Int32) m))))) = some fin := hm
    refine lv_iload hx hb dX11_winningLitres_26 (lv_at hl 7 rfl) ?_
    refine lv_if_lt (tgt := 97) hx hb dX11_winningLitres_28 (by decide) (fun c2 => ?_) (fun c2 => ?_)
    · have hm := g_t c2 hm
      refine lv_iload hx hb dX11_winningLitres_97 (lv_at hl 6 rfl) ?_
      exact rI X hI hr (g_1 hm) hpm dX11_winningLitres_99
    · have hm := g_f c2 hm
      refine lv_iload_n hx hb dX11_winningLitres_31 rfl (lv_at hl 3 rfl) ?_
      refine lv_if_ne (tgt := 39) hx hb dX11_winningLitres_32 (by decide) (fun c3 => ?_) (fun c3 => ?_)
      · have hm := g_f c3 hm
        refine lv_iload hx hb dX11_winningLitres_39 (lv_at hl 4 rfl) ?_
        refine lv_if_ne (tgt := 48) hx hb dX11_winningLitres_41 (by decide) (fun c4 => ?_) (fun c4 => ?_)
        · have hm := g_f c4 hm
          refine lv_iload hx hb dX11_winningLitres_48 (lv_at hl 5 rfl) ?_
          refine lv_if_ne (tgt := 57) hx hb dX11_winningLitres_50 (by decide) (fun c5 => ?_) (fun c5 => ?_)
          · have hm := g_f c5 hm
            refine lv_iconst (v := (0 : Int32)) hx hb dX11_winningLitres_57 (by decide) ?_
            exact tX11_winningLitres_58 N hn X hr fin m0 ih x1 x2 x3 x4 x7 (0 : Int32) m H locs ls hI (lv_sub hl [0, 1, 2, 3, 4, 7] rfl) hm hpm
          · have hm := g_t c5 hm
            refine lv_iconst (v := (3 : Int32)) hx hb dX11_winningLitres_53 (by decide) ?_
            refine lv_goto (tgt := 58) hx hb dX11_winningLitres_54 (by decide) ?_
            exact tX11_winningLitres_58 N hn X hr fin m0 ih x1 x2 x3 x4 x7 (3 : Int32) m H locs ls hI (lv_sub hl [0, 1, 2, 3, 4, 7] rfl) hm hpm
        · have hm := g_t c4 hm
          refine lv_iconst (v := (2 : Int32)) hx hb dX11_winningLitres_44 (by decide) ?_
          refine lv_goto (tgt := 58) hx hb dX11_winningLitres_45 (by decide) ?_
          exact tX11_winningLitres_58 N hn X hr fin m0 ih x1 x2 x3 x4 x7 (2 : Int32) m H locs ls hI (lv_sub hl [0, 1, 2, 3, 4, 7] rfl) hm hpm
      · have hm := g_t c3 hm
        refine lv_iconst (v := (1 : Int32)) hx hb dX11_winningLitres_35 (by decide) ?_
        refine lv_goto (tgt := 58) hx hb dX11_winningLitres_36 (by decide) ?_
        exact tX11_winningLitres_58 N hn X hr fin m0 ih x1 x2 x3 x4 x7 (1 : Int32) m H locs ls hI (lv_sub hl [0, 1, 2, 3, 4, 7] rfl) hm hpm
def fX11_winningLitres (N : Nat) (x1 : Int32) (x2 : Int32) (m : Mem) : Option Int32 := if x1 < 0 ∨ 6 ≤ x1.toNatClampNeg then none else (fX11_winningLitres_26 N N x1 x2 (1 : Int32) (1 : Int32) (1 : Int32) (0 : Int32) ((999 : Int32) - (m.1 44 x1.toNatClampNeg)) m)
set_option maxHeartbeats 4000000 in
set_option maxRecDepth 100000 in
theorem ctX11_winningLitres {l : Launch} {D : va_G} {ca : Nat → ClassId} {ad : Nat → Nat} (N : Nat) (x1 : Int32) (x2 : Int32)  (hn : HNc ca) (m : Mem) (fin : Int32) (hm : fX11_winningLitres N x1 x2 m = some fin) : CI l D ca ad yX11_winningLitres cwX11_winningLitres rmX11_winningLitres [.ref (ad 0), .int x1, .int x2] m fin m := by
  refine start (by decide) (Nat.le_of_ble_eq_true rfl) ?_
  intro p e s mm args below meth c H locs ls X hI hr hl
  have X : CX p s mm args meth c cX11_winningLitres 8 RX11 D ca ad (WA ca ad s.heap.size) := X
  have hx := X.1
  have hb := X.2.1
  have hl : lv_has ls 8 [(0, .ref (ad 0)), (1, .int x1), (2, .int x2)] := hl
  have hm : (if x1 < 0 ∨ 6 ≤ x1.toNatClampNeg then none else (fX11_winningLitres_26 N N x1 x2 (1 : Int32) (1 : Int32) (1 : Int32) (0 : Int32) ((999 : Int32) - (m.1 44 x1.toNatClampNeg)) m)) = some fin := hm
  have hpm : m = m := rfl
  refine lv_iconst (v := (1 : Int32)) hx hb dX11_winningLitres_0 (by decide) ?_
  refine lv_istore_n (lv' := [(3, .int (1 : Int32)), (0, .ref (ad 0)), (1, .int x1), (2, .int x2)]) hx hb dX11_winningLitres_1 rfl hl (by decide) rfl (fun ls hl => ?_)
  refine lv_iconst (v := (1 : Int32)) hx hb dX11_winningLitres_2 (by decide) ?_
  refine lv_istore (lv' := [(4, .int (1 : Int32)), (3, .int (1 : Int32)), (0, .ref (ad 0)), (1, .int x1), (2, .int x2)]) hx hb dX11_winningLitres_3 hl (by decide) rfl (fun ls hl => ?_)
  refine lv_iconst (v := (1 : Int32)) hx hb dX11_winningLitres_5 (by decide) ?_
  refine lv_istore (lv' := [(5, .int (1 : Int32)), (4, .int (1 : Int32)), (3, .int (1 : Int32)), (0, .ref (ad 0)), (1, .int x1), (2, .int x2)]) hx hb dX11_winningLitres_6 hl (by decide) rfl (fun ls hl => ?_)
  refine lv_iconst (v := (0 : Int32)) hx hb dX11_winningLitres_8 (by decide) ?_
  refine lv_istore (lv' := [(6, .int (0 : Int32)), (5, .int (1 : Int32)), (4, .int (1 : Int32)), (3, .int (1 : Int32)), (0, .ref (ad 0)), (1, .int x1), (2, .int x2)]) hx hb dX11_winningLitres_9 hl (by decide) rfl (fun ls hl => ?_)
  refine lv_sipush (v := (999 : Int32)) hx hb dX11_winningLitres_11 (by decide) ?_
  refine lv_aload_n hx hb dX11_winningLitres_14 rfl (lv_at hl 4 rfl) ?_
  refine gR X hI fdX11_37 (la_0 hn) rf11_5 dX11_winningLitres_15 ?_
  refine gR X hI fdX11_139 (la_43 hn) rf0_0 dX11_winningLitres_18 ?_
  refine lv_iload_n hx hb dX11_winningLitres_21 rfl (lv_at hl 5 rfl) ?_
  obtain ⟨g1, hm⟩ := g_no hm
  refine aI X hI (la_44 hn) g1 dX11_winningLitres_22 ?_
  refine lv_isub hx hb dX11_winningLitres_23 ?_
  refine lv_istore (lv' := [(7, .int ((999 : Int32) - (m.1 44 x1.toNatClampNeg))), (6, .int (0 : Int32)), (5, .int (1 : Int32)), (4, .int (1 : Int32)), (3, .int (1 : Int32)), (0, .ref (ad 0)), (1, .int x1), (2, .int x2)]) hx hb dX11_winningLitres_24 hl (by decide) rfl (fun ls hl => ?_)
  exact tX11_winningLitres_26 N hn X hr fin m  N x1 x2 (1 : Int32) (1 : Int32) (1 : Int32) (0 : Int32) ((999 : Int32) - (m.1 44 x1.toNatClampNeg)) m H locs ls hI (lv_sub hl [5, 6, 7, 4, 3, 2, 1, 0] rfl) hm hpm
abbrev rmX11_game : Room := { frames := 3, cells := 0, slots := 0, locals := 70 }
abbrev cwX11_game : Cond := .code yX11_game cX11_game 5 (some .int)
theorem cmX11_game : cwX11_game ∈ BIG := (tb5 (List.mem_of_getElem? (i := 26) rfl) rfl)
def fX11_game (N : Nat) (x1 : Int32) (x2 : Int32) (x3 : Int32) (m : Mem) : Option Int32 := if lay (m.2.2 3) = (0, 6) then ((fX6_hasTub (m.2.2 3) x1 m).bind (fun q2 => if q2 = 0 then (some (-1 : Int32)) else (if x2 < 0 then (some (-1 : Int32)) else (if (99 : Int32) ≤ x2 then (some (-1 : Int32)) else (if x3 < 0 then (some (-1 : Int32)) else (if x3 ≤ (1 : Int32) then (if x1 < 0 ∨ 6 ≤ x1.toNatClampNeg then none else (if (m.1 45 x1.toNatClampNeg) ≤ ((10 : Int32) * x2) then ((fX11_winningLitres N x1 ((10 : Int32) * x2) m).bind (fun q11 => if x3 = 0 then (if q11 ≤ 0 then (some (1 : Int32)) else (some (0 : Int32))) else (if q11 ≤ 0 then (some (-2 : Int32)) else (some q11)))) else (some (-2 : Int32)))) else (some (-1 : Int32)))))))) else none
set_option maxHeartbeats 4000000 in
set_option maxRecDepth 100000 in
theorem ctX11_game {l : Launch} {D : va_G} {ca : Nat → ClassId} {ad : Nat → Nat} (N : Nat) (x1 : Int32) (x2 : Int32) (x3 : Int32)  (hn : HNc ca) (m : Mem) (fin : Int32) (hm : fX11_game N x1 x2 x3 m = some fin) : CI l D ca ad yX11_game cwX11_game rmX11_game [.ref (ad 0), .int x1, .int x2, .int x3] m fin m := by
  refine start (by decide) (Nat.le_of_ble_eq_true rfl) ?_
  intro p e s mm args below meth c H locs ls X hI hr hl
  have X : CX p s mm args meth c cX11_game 5 RX11 D ca ad (WA ca ad s.heap.size) := X
  have hx := X.1
  have hb := X.2.1
  have hl : lv_has ls 5 [(0, .ref (ad 0)), (1, .int x1), (2, .int x2), (3, .int x3)] := hl
  have hm : (if lay (m.2.2 3) = (0, 6) then ((fX6_hasTub (m.2.2 3) x1 m).bind (fun q2 => if q2 = 0 then (some (-1 : Int32)) else (if x2 < 0 then (some (-1 : Int32)) else (if (99 : Int32) ≤ x2 then (some (-1 : Int32)) else (if x3 < 0 then (some (-1 : Int32)) else (if x3 ≤ (1 : Int32) then (if x1 < 0 ∨ 6 ≤ x1.toNatClampNeg then none else (if (m.1 45 x1.toNatClampNeg) ≤ ((10 : Int32) * x2) then ((fX11_winningLitres N x1 ((10 : Int32) * x2) m).bind (fun q11 => if x3 = 0 then (if q11 ≤ 0 then (some (1 : Int32)) else (some (0 : Int32))) else (if q11 ≤ 0 then (some (-2 : Int32)) else (some q11)))) else (some (-2 : Int32)))) else (some (-1 : Int32)))))))) else none) = some fin := hm
  have hpm : m = m := rfl
  refine lv_aload_n hx hb dX11_game_0 rfl (lv_at hl 0 rfl) ?_
  obtain ⟨g1, hm⟩ := g_is hm
  refine gR X hI fdX11_27 (la_0 hn) rf11_3 dX11_game_1 ?_
  refine lv_iload_n hx hb dX11_game_4 rfl (lv_at hl 1 rfl) ?_
  obtain ⟨q2, h3, hm⟩ := g_b hm
  refine backI X hI (runV X hI (ctX6_hasTub (m.2.2 3) x1 (lyO hn g1) hn _ _ h3 _) mdX11_128 (lyO hn g1) rfl ⟨rfl, rfl⟩ ⟨Nat.le_of_ble_eq_true rfl, Nat.le_of_ble_eq_true rfl⟩ rfl hl.1 rfl (Nat.le_of_ble_eq_true rfl) dX11_game_5) (fun H locs hI => ?_)
  refine lv_if_eq (tgt := 30) hx hb dX11_game_8 (by decide) (fun c4 => ?_) (fun c4 => ?_)
  · have hm := g_t c4 hm
    refine lv_iconst (v := (-1 : Int32)) hx hb dX11_game_30 (by decide) ?_
    exact rI X hI hr (g_1 hm) hpm dX11_game_31
  · have hm := g_f c4 hm
    refine lv_iload_n hx hb dX11_game_11 rfl (lv_at hl 2 rfl) ?_
    refine lv_if_lt (tgt := 30) hx hb dX11_game_12 (by decide) (fun c5 => ?_) (fun c5 => ?_)
    · have hm := g_t c5 hm
      refine lv_iconst (v := (-1 : Int32)) hx hb dX11_game_30 (by decide) ?_
      exact rI X hI hr (g_1 hm) hpm dX11_game_31
    · have hm := g_f c5 hm
      refine lv_iload_n hx hb dX11_game_15 rfl (lv_at hl 2 rfl) ?_
      refine lv_bipush (v := (99 : Int32)) hx hb dX11_game_16 (by decide) ?_
      refine lv_icmp_ge (tgt := 30) hx hb dX11_game_18 (by decide) (fun c6 => ?_) (fun c6 => ?_)
      · have hm := g_t c6 hm
        refine lv_iconst (v := (-1 : Int32)) hx hb dX11_game_30 (by decide) ?_
        exact rI X hI hr (g_1 hm) hpm dX11_game_31
      · have hm := g_f c6 hm
        refine lv_iload_n hx hb dX11_game_21 rfl (lv_at hl 3 rfl) ?_
        refine lv_if_lt (tgt := 30) hx hb dX11_game_22 (by decide) (fun c7 => ?_) (fun c7 => ?_)
        · have hm := g_t c7 hm
          refine lv_iconst (v := (-1 : Int32)) hx hb dX11_game_30 (by decide) ?_
          exact rI X hI hr (g_1 hm) hpm dX11_game_31
        · have hm := g_f c7 hm
          refine lv_iload_n hx hb dX11_game_25 rfl (lv_at hl 3 rfl) ?_
          refine lv_iconst (v := (1 : Int32)) hx hb dX11_game_26 (by decide) ?_
          refine lv_icmp_le (tgt := 32) hx hb dX11_game_27 (by decide) (fun c8 => ?_) (fun c8 => ?_)
          · have hm := g_t c8 hm
            refine lv_aload_n hx hb dX11_game_32 rfl (lv_at hl 0 rfl) ?_
            refine gR X hI fdX11_37 (la_0 hn) rf11_5 dX11_game_33 ?_
            refine gR X hI fdX11_143 (la_43 hn) rf0_1 dX11_game_36 ?_
            refine lv_iload_n hx hb dX11_game_39 rfl (lv_at hl 1 rfl) ?_
            obtain ⟨g9, hm⟩ := g_no hm
            refine aI X hI (la_45 hn) g9 dX11_game_40 ?_
            refine lv_bipush (v := (10 : Int32)) hx hb dX11_game_41 (by decide) ?_
            refine lv_iload_n hx hb dX11_game_43 rfl (lv_at hl 2 rfl) ?_
            refine lv_imul hx hb dX11_game_44 ?_
            refine lv_icmp_le (tgt := 51) hx hb dX11_game_45 (by decide) (fun c10 => ?_) (fun c10 => ?_)
            · have hm := g_t c10 hm
              refine lv_aload_n hx hb dX11_game_51 rfl (lv_at hl 0 rfl) ?_
              refine lv_iload_n hx hb dX11_game_52 rfl (lv_at hl 1 rfl) ?_
              refine lv_bipush (v := (10 : Int32)) hx hb dX11_game_53 (by decide) ?_
              refine lv_iload_n hx hb dX11_game_55 rfl (lv_at hl 2 rfl) ?_
              refine lv_imul hx hb dX11_game_56 ?_
              obtain ⟨q11, h12, hm⟩ := g_b hm
              refine backI X hI (runV X hI (ctX11_winningLitres N x1 ((10 : Int32) * x2)  hn _ _ h12 _) mdX11_270 (la_0 hn) rfl ⟨rfl, rfl⟩ ⟨Nat.le_of_ble_eq_true rfl, Nat.le_of_ble_eq_true rfl⟩ rfl hl.1 rfl (Nat.le_of_ble_eq_true rfl) dX11_game_57) (fun H locs hI => ?_)
              refine lv_istore (lv' := [(4, .int q11), (0, .ref (ad 0)), (1, .int x1), (2, .int x2), (3, .int x3)]) hx hb dX11_game_60 hl (by decide) rfl (fun ls hl => ?_)
              refine lv_iload_n hx hb dX11_game_62 rfl (lv_at hl 4 rfl) ?_
              refine lv_if_ne (tgt := 77) hx hb dX11_game_63 (by decide) (fun c13 => ?_) (fun c13 => ?_)
              · have hm := g_f c13 hm
                refine lv_iload hx hb dX11_game_77 (lv_at hl 0 rfl) ?_
                refine lv_if_le (tgt := 87) hx hb dX11_game_79 (by decide) (fun c14 => ?_) (fun c14 => ?_)
                · have hm := g_t c14 hm
                  refine lv_bipush (v := (-2 : Int32)) hx hb dX11_game_87 (by decide) ?_
                  exact rI X hI hr (g_1 hm) hpm dX11_game_89
                · have hm := g_f c14 hm
                  refine lv_iload hx hb dX11_game_82 (lv_at hl 0 rfl) ?_
                  refine lv_goto (tgt := 89) hx hb dX11_game_84 (by decide) ?_
                  exact rI X hI hr (g_1 hm) hpm dX11_game_89
              · have hm := g_t c13 hm
                refine lv_iload hx hb dX11_game_66 (lv_at hl 0 rfl) ?_
                refine lv_if_le (tgt := 75) hx hb dX11_game_68 (by decide) (fun c15 => ?_) (fun c15 => ?_)
                · have hm := g_t c15 hm
                  refine lv_iconst (v := (1 : Int32)) hx hb dX11_game_75 (by decide) ?_
                  exact rI X hI hr (g_1 hm) hpm dX11_game_76
                · have hm := g_f c15 hm
                  refine lv_iconst (v := (0 : Int32)) hx hb dX11_game_71 (by decide) ?_
                  refine lv_goto (tgt := 76) hx hb dX11_game_72 (by decide) ?_
                  exact rI X hI hr (g_1 hm) hpm dX11_game_76
            · have hm := g_f c10 hm
              refine lv_bipush (v := (-2 : Int32)) hx hb dX11_game_48 (by decide) ?_
              exact rI X hI hr (g_1 hm) hpm dX11_game_50
          · have hm := g_f c8 hm
            refine lv_iconst (v := (-1 : Int32)) hx hb dX11_game_30 (by decide) ?_
            exact rI X hI hr (g_1 hm) hpm dX11_game_31
abbrev rmX11_tells : Room := { frames := 4, cells := 0, slots := 0, locals := 105 }
abbrev cwX11_tells : Cond := .code yX11_tells cX11_tells 4 (some .int)
theorem cmX11_tells : cwX11_tells ∈ BIG := (tb5 (List.mem_of_getElem? (i := 34) rfl) rfl)
def fX11_tells_17 (N : Nat) : Nat → Int32 → Int32 → Int32 → Mem → Option (Int32 × Mem)
  | 0, _, _, _, _ => none
  | n + 1, x1, x2, x3, m => if lay (m.2.2 3) = (0, 6) then (if (m.1 ((m.2.2 3) + 1) 2) ≤ x3 then (if lay (m.2.2 3) = (0, 6) then (some ((imin x2 ((m.1 ((m.2.2 3) + 1) 2) - x2)), m)) else none) else (if lay (m.2.2 3) = (0, 6) then ((fX6_easeIn N (m.2.2 3) 43 x3 x1 (0 : Int32) m).bind (fun q9 => if q9.1 = 0 then (fX11_tells_17 N n x1 x2 (x3 + (1 : Int32)) q9.2) else (fX11_tells_17 N n x1 (x2 + (1 : Int32)) (x3 + (1 : Int32)) q9.2))) else none)) else none
set_option maxHeartbeats 4000000 in
set_option maxRecDepth 100000 in
theorem tX11_tells_17 (N : Nat) {l : Launch} {D : va_G} {ca : Nat → ClassId} {ad : Nat → Nat} {p : Program} {e : Env} {s : State} {mm : MethodId} {args : Array Value} {below : List Frame} {meth : Method} {c : Code}  (hn : HNc ca) (X : CX p s mm args meth c cX11_tells 4 RX11 D ca ad (WA ca ad s.heap.size)) (hr : meth.sig.returnType = (some .int)) (fin : (Int32 × Mem))  : ∀ (n : Nat) (x1 : Int32) (x2 : Int32) (x3 : Int32) (m : Mem) (H : Heap) (locs : List Loc) (ls : Array Slot), IW D ca ad (WA ca ad s.heap.size) s m H locs → lv_has ls 4 [(0, .ref (ad 0)), (1, .int x1), (2, .int x2), (3, .int x3)] → fX11_tells_17 N n x1 x2 x3 m = some fin → W p l e rmX11_tells s mm args below meth c H locs 0 0 (MQ below (QI D ca ad s.heap.size fin.1 fin.2) args s 0 0 (WA ca ad s.heap.size)) (F0 mm 17 ls []) := by
  have hx := X.1
  have hb := X.2.1
  intro n
  induction n with
  | zero => intro x1 x2 x3 m H locs ls hI hl hm
            exact absurd hm (by intro q; cases q)
  | succ n ih =>
    intro x1 x2 x3 m H locs ls hI hl hm
    have hm : (if lay (m.2.2 3) = (0, 6) then (if (m.1 ((m.2.2 3) + 1) 2) ≤ x3 then (if lay (m.2.2 3) = (0, 6) then (some ((imin x2 ((m.1 ((m.2.2 3) + 1) 2) - x2)), m)) else none) else (if lay (m.2.2 3) = (0, 6) then ((fX6_easeIn N (m.2.2 3) 43 x3 x1 (0 : Int32) m).bind (fun q9 => if q9.1 = 0 then (fX11_tells_17 N n x1 x2 (x3 + (1 : Int32)) q9.2) else (fX11_tells_17 N n x1 (x2 + (1 : Int32)) (x3 + (1 : Int32)) q9.2))) else none)) else none) = some fin := hm
    refine lv_iload_n hx hb dX11_tells_17 rfl (lv_at hl 3 rfl) ?_
    refine lv_aload_n hx hb dX11_tells_18 rfl (lv_at hl 0 rfl) ?_
    obtain ⟨g5, hm⟩ := g_is hm
    refine gR X hI fdX11_27 (la_0 hn) rf11_3 dX11_tells_19 ?_
    refine gR X hI fdX11_115 (lyO hn g5) rf6_0 dX11_tells_22 ?_
    refine gI X hI fdX11_239 (lf6_0 hn (lyO hn g5)) dX11_tells_25 ?_
    refine lv_icmp_ge (tgt := 57) hx hb dX11_tells_28 (by decide) (fun c6 => ?_) (fun c6 => ?_)
    · have hm := g_t c6 hm
      refine lv_iload_n hx hb dX11_tells_57 rfl (lv_at hl 2 rfl) ?_
      refine lv_aload_n hx hb dX11_tells_58 rfl (lv_at hl 0 rfl) ?_
      obtain ⟨g7, hm⟩ := g_is hm
      refine gR X hI fdX11_27 (la_0 hn) rf11_3 dX11_tells_59 ?_
      refine gR X hI fdX11_115 (lyO hn g7) rf6_0 dX11_tells_62 ?_
      refine gI X hI fdX11_239 (lf6_0 hn (lyO hn g7)) dX11_tells_65 ?_
      refine lv_iload_n hx hb dX11_tells_68 rfl (lv_at hl 2 rfl) ?_
      refine lv_isub hx hb dX11_tells_69 ?_
      refine kMin X mpX11_273 hl.1 (Nat.le_of_ble_eq_true rfl) (Nat.le_of_ble_eq_true rfl) dX11_tells_70 ?_
      exact rI X hI hr (g_p hm).1 (g_p hm).2 dX11_tells_73
    · have hm := g_f c6 hm
      refine lv_aload_n hx hb dX11_tells_31 rfl (lv_at hl 0 rfl) ?_
      obtain ⟨g8, hm⟩ := g_is hm
      refine gR X hI fdX11_27 (la_0 hn) rf11_3 dX11_tells_32 ?_
      refine lv_aload_n hx hb dX11_tells_35 rfl (lv_at hl 0 rfl) ?_
      refine gR X hI fdX11_37 (la_0 hn) rf11_5 dX11_tells_36 ?_
      refine lv_iload_n hx hb dX11_tells_39 rfl (lv_at hl 3 rfl) ?_
      refine lv_iload_n hx hb dX11_tells_40 rfl (lv_at hl 1 rfl) ?_
      refine lv_iconst (v := (0 : Int32)) hx hb dX11_tells_41 (by decide) ?_
      obtain ⟨q9, h10, hm⟩ := g_b hm
      refine backI X hI (runV X hI (ctX6_easeIn N (m.2.2 3) 43 x3 x1 (0 : Int32) (lyO hn g8) (la_43 hn) hn _ _ h10 _) mdX11_178 (lyO hn g8) rfl ⟨rfl, rfl⟩ ⟨Nat.le_of_ble_eq_true rfl, Nat.le_of_ble_eq_true rfl⟩ rfl hl.1 rfl (Nat.le_of_ble_eq_true rfl) dX11_tells_42) (fun H locs hI => ?_)
      refine lv_if_eq (tgt := 51) hx hb dX11_tells_45 (by decide) (fun c11 => ?_) (fun c11 => ?_)
      · have hm := g_t c11 hm
        refine lv_iinc (v := (x3 + (1 : Int32))) (lv' := [(3, .int (x3 + (1 : Int32))), (0, .ref (ad 0)), (1, .int x1), (2, .int x2)]) hx hb dX11_tells_51 hl (k := 3) rfl rfl (by decide) rfl (fun ls hl => ?_)
        refine lv_goto (tgt := 17) hx hb dX11_tells_54 (by decide) ?_
        exact ih x1 x2 (x3 + (1 : Int32)) q9.2 H locs ls hI (lv_sub hl [1, 2, 3, 0] rfl) hm
      · have hm := g_f c11 hm
        refine lv_iinc (v := (x2 + (1 : Int32))) (lv' := [(2, .int (x2 + (1 : Int32))), (0, .ref (ad 0)), (1, .int x1), (3, .int x3)]) hx hb dX11_tells_48 hl (k := 2) rfl rfl (by decide) rfl (fun ls hl => ?_)
        refine lv_iinc (v := (x3 + (1 : Int32))) (lv' := [(3, .int (x3 + (1 : Int32))), (2, .int (x2 + (1 : Int32))), (0, .ref (ad 0)), (1, .int x1)]) hx hb dX11_tells_51 hl (k := 3) rfl rfl (by decide) rfl (fun ls hl => ?_)
        refine lv_goto (tgt := 17) hx hb dX11_tells_54 (by decide) ?_
        exact ih x1 (x2 + (1 : Int32)) (x3 + (1 : Int32)) q9.2 H locs ls hI (lv_sub hl [2, 3, 1, 0] rfl) hm
def fX11_tells (N : Nat) (x1 : Int32) (m : Mem) : Option (Int32 × Mem) := if lay (m.2.2 3) = (0, 6) then ((fX6_hasTub (m.2.2 3) x1 m).bind (fun q2 => if q2 = 0 then (some ((-1 : Int32), m)) else (fX11_tells_17 N N x1 (0 : Int32) (0 : Int32) m))) else none
set_option maxHeartbeats 4000000 in
set_option maxRecDepth 100000 in
theorem ctX11_tells {l : Launch} {D : va_G} {ca : Nat → ClassId} {ad : Nat → Nat} (N : Nat) (x1 : Int32)  (hn : HNc ca) (m : Mem) (fin : (Int32 × Mem)) (hm : fX11_tells N x1 m = some fin) : CI l D ca ad yX11_tells cwX11_tells rmX11_tells [.ref (ad 0), .int x1] m fin.1 fin.2 := by
  refine start (by decide) (Nat.le_of_ble_eq_true rfl) ?_
  intro p e s mm args below meth c H locs ls X hI hr hl
  have X : CX p s mm args meth c cX11_tells 4 RX11 D ca ad (WA ca ad s.heap.size) := X
  have hx := X.1
  have hb := X.2.1
  have hl : lv_has ls 4 [(0, .ref (ad 0)), (1, .int x1)] := hl
  have hm : (if lay (m.2.2 3) = (0, 6) then ((fX6_hasTub (m.2.2 3) x1 m).bind (fun q2 => if q2 = 0 then (some ((-1 : Int32), m)) else (fX11_tells_17 N N x1 (0 : Int32) (0 : Int32) m))) else none) = some fin := hm
  refine lv_aload_n hx hb dX11_tells_0 rfl (lv_at hl 0 rfl) ?_
  obtain ⟨g1, hm⟩ := g_is hm
  refine gR X hI fdX11_27 (la_0 hn) rf11_3 dX11_tells_1 ?_
  refine lv_iload_n hx hb dX11_tells_4 rfl (lv_at hl 1 rfl) ?_
  obtain ⟨q2, h3, hm⟩ := g_b hm
  refine backI X hI (runV X hI (ctX6_hasTub (m.2.2 3) x1 (lyO hn g1) hn _ _ h3 _) mdX11_128 (lyO hn g1) rfl ⟨rfl, rfl⟩ ⟨Nat.le_of_ble_eq_true rfl, Nat.le_of_ble_eq_true rfl⟩ rfl hl.1 rfl (Nat.le_of_ble_eq_true rfl) dX11_tells_5) (fun H locs hI => ?_)
  refine lv_if_ne (tgt := 13) hx hb dX11_tells_8 (by decide) (fun c4 => ?_) (fun c4 => ?_)
  · have hm := g_f c4 hm
    refine lv_iconst (v := (0 : Int32)) hx hb dX11_tells_13 (by decide) ?_
    refine lv_istore_n (lv' := [(2, .int (0 : Int32)), (0, .ref (ad 0)), (1, .int x1)]) hx hb dX11_tells_14 rfl hl (by decide) rfl (fun ls hl => ?_)
    refine lv_iconst (v := (0 : Int32)) hx hb dX11_tells_15 (by decide) ?_
    refine lv_istore_n (lv' := [(3, .int (0 : Int32)), (2, .int (0 : Int32)), (0, .ref (ad 0)), (1, .int x1)]) hx hb dX11_tells_16 rfl hl (by decide) rfl (fun ls hl => ?_)
    exact tX11_tells_17 N hn X hr fin  N x1 (0 : Int32) (0 : Int32) m H locs ls hI (lv_sub hl [2, 3, 1, 0] rfl) hm
  · have hm := g_t c4 hm
    refine lv_iconst (v := (-1 : Int32)) hx hb dX11_tells_11 (by decide) ?_
    exact rI X hI hr (g_p hm).1 (g_p hm).2 dX11_tells_12
abbrev rmX11_areTwo : Room := { frames := 1, cells := 0, slots := 0, locals := 21 }
def fX11_areTwo  (x1 : Int32) (x2 : Int32) (m : Mem) : Option Int32 := if lay (m.2.2 3) = (0, 6) then ((fX6_hasKnight (m.2.2 3) x1 m).bind (fun q2 => if q2 = 0 then (some (0 : Int32)) else (if lay (m.2.2 3) = (0, 6) then ((fX6_hasKnight (m.2.2 3) x2 m).bind (fun q6 => if q6 = 0 then (some (0 : Int32)) else (if x1 = x2 then (some (0 : Int32)) else (some (1 : Int32))))) else none))) else none
set_option maxHeartbeats 4000000 in
set_option maxRecDepth 100000 in
theorem ctX11_areTwo {l : Launch} {D : va_G} {ca : Nat → ClassId} {ad : Nat → Nat}  (x1 : Int32) (x2 : Int32)  (hn : HNc ca) (m : Mem) (fin : Int32) (hm : fX11_areTwo x1 x2 m = some fin) : CI l D ca ad yX11_areTwo cwX11_areTwo rmX11_areTwo [.ref (ad 0), .int x1, .int x2] m fin m := by
  refine start (by decide) (Nat.le_of_ble_eq_true rfl) ?_
  intro p e s mm args below meth c H locs ls X hI hr hl
  have X : CX p s mm args meth c cX11_areTwo 3 RX11 D ca ad (WA ca ad s.heap.size) := X
  have hx := X.1
  have hb := X.2.1
  have hl : lv_has ls 3 [(0, .ref (ad 0)), (1, .int x1), (2, .int x2)] := hl
  have hm : (if lay (m.2.2 3) = (0, 6) then ((fX6_hasKnight (m.2.2 3) x1 m).bind (fun q2 => if q2 = 0 then (some (0 : Int32)) else (if lay (m.2.2 3) = (0, 6) then ((fX6_hasKnight (m.2.2 3) x2 m).bind (fun q6 => if q6 = 0 then (some (0 : Int32)) else (if x1 = x2 then (some (0 : Int32)) else (some (1 : Int32))))) else none))) else none) = some fin := hm
  have hpm : m = m := rfl
  refine lv_aload_n hx hb dX11_areTwo_0 rfl (lv_at hl 0 rfl) ?_
  obtain ⟨g1, hm⟩ := g_is hm
  refine gR X hI fdX11_27 (la_0 hn) rf11_3 dX11_areTwo_1 ?_
  refine lv_iload_n hx hb dX11_areTwo_4 rfl (lv_at hl 1 rfl) ?_
  obtain ⟨q2, h3, hm⟩ := g_b hm
  refine backI X hI (runV X hI (ctX6_hasKnight (m.2.2 3) x1 (lyO hn g1) hn _ _ h3 _) mdX11_154 (lyO hn g1) rfl ⟨rfl, rfl⟩ ⟨Nat.le_of_ble_eq_true rfl, Nat.le_of_ble_eq_true rfl⟩ rfl hl.1 rfl (Nat.le_of_ble_eq_true rfl) dX11_areTwo_5) (fun H locs hI => ?_)
  refine lv_if_eq (tgt := 31) hx hb dX11_areTwo_8 (by decide) (fun c4 => ?_) (fun c4 => ?_)
  · have hm := g_t c4 hm
    refine lv_iconst (v := (0 : Int32)) hx hb dX11_areTwo_31 (by decide) ?_
    exact rZ X hI hr (by decide) (g_1 hm) hpm dX11_areTwo_32
  · have hm := g_f c4 hm
    refine lv_aload_n hx hb dX11_areTwo_11 rfl (lv_at hl 0 rfl) ?_
    obtain ⟨g5, hm⟩ := g_is hm
    refine gR X hI fdX11_27 (la_0 hn) rf11_3 dX11_areTwo_12 ?_
    refine lv_iload_n hx hb dX11_areTwo_15 rfl (lv_at hl 2 rfl) ?_
    obtain ⟨q6, h7, hm⟩ := g_b hm
    refine backI X hI (runV X hI (ctX6_hasKnight (m.2.2 3) x2 (lyO hn g5) hn _ _ h7 _) mdX11_154 (lyO hn g5) rfl ⟨rfl, rfl⟩ ⟨Nat.le_of_ble_eq_true rfl, Nat.le_of_ble_eq_true rfl⟩ rfl hl.1 rfl (Nat.le_of_ble_eq_true rfl) dX11_areTwo_16) (fun H locs hI => ?_)
    refine lv_if_eq (tgt := 31) hx hb dX11_areTwo_19 (by decide) (fun c8 => ?_) (fun c8 => ?_)
    · have hm := g_t c8 hm
      refine lv_iconst (v := (0 : Int32)) hx hb dX11_areTwo_31 (by decide) ?_
      exact rZ X hI hr (by decide) (g_1 hm) hpm dX11_areTwo_32
    · have hm := g_f c8 hm
      refine lv_iload_n hx hb dX11_areTwo_22 rfl (lv_at hl 1 rfl) ?_
      refine lv_iload_n hx hb dX11_areTwo_23 rfl (lv_at hl 2 rfl) ?_
      refine lv_icmp_eq (tgt := 31) hx hb dX11_areTwo_24 (by decide) (fun c9 => ?_) (fun c9 => ?_)
      · have hm := g_t c9 hm
        refine lv_iconst (v := (0 : Int32)) hx hb dX11_areTwo_31 (by decide) ?_
        exact rZ X hI hr (by decide) (g_1 hm) hpm dX11_areTwo_32
      · have hm := g_f c9 hm
        refine lv_iconst (v := (1 : Int32)) hx hb dX11_areTwo_27 (by decide) ?_
        refine lv_goto (tgt := 32) hx hb dX11_areTwo_28 (by decide) ?_
        exact rZ X hI hr (by decide) (g_1 hm) hpm dX11_areTwo_32
abbrev rmX11_gain : Room := { frames := 0, cells := 0, slots := 0, locals := 0 }
def fX11_gain  (x0 : Int32) (x1 : Int32) (x2 : Int32) (m : Mem) : Option Int32 := if x1 = 0 then (if x2 = 0 then (some (x0 - (2 : Int32))) else (some (x0 + (3 : Int32)))) else (if x2 = 0 then (some (1 : Int32)) else (some (x0 / (2 : Int32))))
set_option maxHeartbeats 4000000 in
set_option maxRecDepth 100000 in
theorem ctX11_gain {l : Launch} {D : va_G} {ca : Nat → ClassId} {ad : Nat → Nat}  (x0 : Int32) (x1 : Int32) (x2 : Int32)  (hn : HNc ca) (m : Mem) (fin : Int32) (hm : fX11_gain x0 x1 x2 m = some fin) : CI l D ca ad yX11_gain cwX11_gain rmX11_gain [.int x0, .int x1, .int x2] m fin m := by
  refine start (by decide) (Nat.le_of_ble_eq_true rfl) ?_
  intro p e s mm args below meth c H locs ls X hI hr hl
  have X : CX p s mm args meth c cX11_gain 3 RX11 D ca ad (WA ca ad s.heap.size) := X
  have hx := X.1
  have hb := X.2.1
  have hl : lv_has ls 3 [(0, .int x0), (1, .int x1), (2, .int x2)] := hl
  have hm : (if x1 = 0 then (if x2 = 0 then (some (x0 - (2 : Int32))) else (some (x0 + (3 : Int32)))) else (if x2 = 0 then (some (1 : Int32)) else (some (x0 / (2 : Int32))))) = some fin := hm
  have hpm : m = m := rfl
  refine lv_iload_n hx hb dX11_gain_0 rfl (lv_at hl 1 rfl) ?_
  refine lv_if_ne (tgt := 18) hx hb dX11_gain_1 (by decide) (fun c1 => ?_) (fun c1 => ?_)
  · have hm := g_f c1 hm
    refine lv_iload_n hx hb dX11_gain_18 rfl (lv_at hl 2 rfl) ?_
    refine lv_if_ne (tgt := 26) hx hb dX11_gain_19 (by decide) (fun c2 => ?_) (fun c2 => ?_)
    · have hm := g_f c2 hm
      refine lv_iload_n hx hb dX11_gain_26 rfl (lv_at hl 0 rfl) ?_
      refine lv_iconst (v := (2 : Int32)) hx hb dX11_gain_27 (by decide) ?_
      refine lv_idiv hx hb dX11_gain_28 (by decide) ?_
      exact rI X hI hr (g_1 hm) hpm dX11_gain_29
    · have hm := g_t c2 hm
      refine lv_iconst (v := (1 : Int32)) hx hb dX11_gain_22 (by decide) ?_
      refine lv_goto (tgt := 29) hx hb dX11_gain_23 (by decide) ?_
      exact rI X hI hr (g_1 hm) hpm dX11_gain_29
  · have hm := g_t c1 hm
    refine lv_iload_n hx hb dX11_gain_4 rfl (lv_at hl 2 rfl) ?_
    refine lv_if_ne (tgt := 14) hx hb dX11_gain_5 (by decide) (fun c3 => ?_) (fun c3 => ?_)
    · have hm := g_f c3 hm
      refine lv_iload_n hx hb dX11_gain_14 rfl (lv_at hl 0 rfl) ?_
      refine lv_iconst (v := (3 : Int32)) hx hb dX11_gain_15 (by decide) ?_
      refine lv_iadd hx hb dX11_gain_16 ?_
      exact rI X hI hr (g_1 hm) hpm dX11_gain_17
    · have hm := g_t c3 hm
      refine lv_iload_n hx hb dX11_gain_8 rfl (lv_at hl 0 rfl) ?_
      refine lv_iconst (v := (2 : Int32)) hx hb dX11_gain_9 (by decide) ?_
      refine lv_isub hx hb dX11_gain_10 ?_
      refine lv_goto (tgt := 17) hx hb dX11_gain_11 (by decide) ?_
      exact rI X hI hr (g_1 hm) hpm dX11_gain_17
