/-- no cells of the one memory -/
def zca (ca : Nat → Nat) : Nat → Nat := fun k => if k = 9 ∨ k = 10 then 0 else ca k
theorem SK.z {ca : Nat → Nat} {A : Nat → Prop} {s : State} {H : Heap} (h : SK ca A s H) : SK (zca ca) A s H := by
  have e : ∀ k, k < 9 → zca ca k = ca k := fun k hk => if_neg (by omega)
  refine ⟨⟨fun i hi => ?_, fun i j hi hj => ?_⟩, h.2.1, h.2.2.1, h.2.2.2.1, h.2.2.2.2⟩
  · have h1 := h.1.1 i hi
    dsimp only at h1 ⊢
    rw [e (4 + i) (by omega), e (6 + i) (by omega)]
    exact h1
  · have h1 := h.1.2 i j hi hj
    dsimp only at h1 ⊢
    rw [e (4 + i) (by omega), e (4 + j) (by omega)]
    exact h1
section TOK
variable {p : Program} {l : Launch} {e : Env} {R : Room} {s : State} {mm : MethodId} {args : Array Value} {below : List Frame} {meth : Method} {c : Code} {H : Heap} {locs : List Loc} {cells slots : Nat} {Q : State → Prop}
variable {cc : ByteArray} {nL : Nat} {own : String} {D : va_G} {ca ad : Nat → Nat} {A : Nat → Prop} {pc : Nat} {ls : Array Slot} {rest : List Value} {ws : va_W} {m : Mem}
theorem zX (X : CXc p s mm args meth c cc nL own D ca A) : CX p s mm args meth c cc nL own D (zca ca) ad A :=
  ⟨X.1, X.2.1, X.2.2.1, X.2.2.2.1, X.2.2.2.2.1, X.2.2.2.2.2.1, fun i j hi => absurd hi.2 (Nat.not_lt_zero i), fun i hi => absurd hi.2 (Nat.not_lt_zero i), X.2.2.2.2.2.2.1, X.2.2.2.2.2.2.2.1, X.2.2.2.2.2.2.2.2.z⟩
theorem zI (hS : va_S A s.heap H locs) : IW D (zca ca) ad A s m H locs := by
  refine ⟨fun k q h => ?_, hS⟩
  have e : (wl (zca ca) ad m).length = 0 := wl_len
  rw [List.getElem?_eq_none (by rw [e]; exact Nat.zero_le k)] at h
  cases h
theorem zA {q sz : Nat} (h : q < sz) : ¬ WA (zca ca) ad sz q := fun z => by
  rcases z with ⟨i, h1, -⟩ | h1
  · exact absurd h1.2 (Nat.not_lt_zero i)
  · exact absurd h1 (Nat.not_le.mpr h)
theorem zback {r : Int32} {a : Array Value} {m' : Mem} {st0 : List Value} (X : CXc p s mm args meth c cc nL own D ca A) (hP : va_P D clsL ws H) (hS : va_S A s.heap H locs) (hr : va_Run p l e R s mm args below meth c H locs cells slots 0 0 (F0 mm pc ls st0) rest (QI D (zca ca) ad H.size r m' a) (WA (zca ca) ad H.size))
    (kk : ∀ H1 locs1, va_P D clsL ws H1 → va_S A s.heap H1 locs1 → W p l e R s mm args below meth c H1 locs1 cells slots Q (F0 mm (pc + 3) ls (.int r :: rest))) : W p l e R s mm args below meth c H locs cells slots Q (F0 mm pc ls st0) := by
  refine va_calli hr hS (fun q _ h => wa_A (zX (ad := ad) X) hS q h) (wa_A (zX X) hS) (fun r1 u t H1 locs1 ht hvm hw hB hz1 hk1 hS1 => ?_)
  obtain ⟨rfl, rfl⟩ := hw
  exact kk H1 locs1 (hP.kept (fun k x hx => hk1 x.1 ((hP k x hx).lt) (zA ((hP k x hx).lt)))) hS1
theorem zS {y : MethodName} {bytes : ByteArray} {maxL idx n : Nat} {ret : Option FieldType} {rm : Room} {As st0 : List Value} {Qc : Array Value → State → Outcome → State → Prop} (X : CXc p s mm args meth c cc nL own D ca A) (hS : va_S A s.heap H locs) (hM : Met l y (Cond.code y bytes maxL ret :: BIG) rm (va_Pc As (PW D (zca ca) ad m H.size)) Qc 0 0 (WA (zca ca) ad H.size)) (hm : MS own idx y (Cond.code y bytes maxL ret) n)
    (hc : rm.cells = 0 ∧ rm.slots = 0) (hR : rm.frames + 1 ≤ R.frames ∧ 8 + (maxL + 11) + rm.locals ≤ R.locals) (hn : As.length = n) (hz : ls.size = nL) (hst : st0 = As.reverse ++ rest) (hW : (rest.map fun v => v.category).sum ≤ 8) (hdg : decode cc pc = .ok (.invokestatic idx, 3)) (hf : cells + 0 ≤ R.cells ∧ slots + 0 ≤ R.slots) :
    va_Run p l e R s mm args below meth c H locs cells slots 0 0 (F0 mm pc ls st0) rest (Qc As.toArray) (WA (zca ca) ad H.size) := by
  obtain ⟨h1, h2, h4, h5, h6⟩ := hm
  have hts := X.2.2.2.2.1
  exact va_runS (Ts := BIG) ⟨X.1, X.2.1, X.2.2.1, X.2.2.2.1, hts⟩ hM ⟨cb_of (zX (ad := ad) X) h1 h4 h5 h6 hc hR, hts _ h2⟩ ⟨pw_blind, pw_at (zX X) (zI hS)⟩ rfl hn hz hst (lv_room hW) hdg hf
theorem zT {y : MethodName} {bytes : ByteArray} {maxL idx n b i : Nat} {ret : Option FieldType} {rm : Room} {As st0 : List Value} {Qc : Array Value → State → Outcome → State → Prop} (X : CXc p s mm args meth c cc nL own D ca A) (hS : va_S A s.heap H locs) (hi : i < 2) (hb : b = ca (4 + i)) (hM : Met l y (Cond.code y bytes maxL ret :: BIG) rm (va_Pc (.ref b :: As) (PW D (zca ca) ad m H.size)) Qc 0 0 (WA (zca ca) ad H.size)) (hm : MD own idx y (Cond.code y bytes maxL ret) n) (hci : y.cls = "java/lang/String")
    (hc : rm.cells = 0 ∧ rm.slots = 0) (hR : rm.frames + 1 ≤ R.frames ∧ 8 + (maxL + 11) + rm.locals ≤ R.locals) (hn : As.length = n) (hz : ls.size = nL) (hst : st0 = As.reverse ++ .ref b :: rest) (hW : (rest.map fun v => v.category).sum ≤ 8) (hdg : decode cc pc = .ok (.invokevirtual idx, 3)) (hf : cells + 0 ≤ R.cells ∧ slots + 0 ≤ R.slots) :
    va_Run p l e R s mm args below meth c H locs cells slots 0 0 (F0 mm pc ls st0) rest (Qc (Value.ref b :: As).toArray) (WA (zca ca) ad H.size) := by
  obtain ⟨h1, h2, h3, h4, h5, h6⟩ := hm
  have hts := X.2.2.2.2.1
  refine va_runV (Ts := BIG) (C := y.cls) ⟨X.1, X.2.1, X.2.2.1, X.2.2.2.1, hts⟩ hM ⟨cb_of (zX (ad := ad) X) h1 h4 h5 h6 hc hR, hts _ h2, hts _ h3⟩ ⟨pw_blind, ?_, pw_at (zX X) (zI hS)⟩ rfl hn hz hst (lv_room hW) hdg hf
  rw [hci, hb]
  exact vk_recv (adK := fun i => ca (4 + i)) (i := i) X.2.2.2.2.2.2.2.2.1 hi hS
end TOK
def wordAt : Nat → Int32
  | 0 => 0
  | k + 1 => if chS 0 k = 32 then wordAt k + 1 else wordAt k
def letAt : Nat → Int32
  | 0 => 0
  | k + 1 => if chS 0 k = 32 then 0 else letAt k + 1
def plc (c n : Int32) : Int32 := if (6 : Int32) ≤ n then 0 else ((c - 97 + 1) <<< ((5 * (5 - n)) &&& 31))
def wrdAt : Nat → Nat → Int32
  | 0 => fun _ => 0
  | k + 1 => if chS 0 k = 32 then wrdAt k else upd (wrdAt k) (wordAt k).toNatClampNeg (wrdAt k (wordAt k).toNatClampNeg ||| plc (chS 0 k) (letAt k))
theorem word_in : ∀ k, k < 106 → ¬ (wordAt k < 0 ∨ 21 ≤ (wordAt k).toNatClampNeg) ∧ ¬ (Int32.ofNat 21 ≤ wordAt k) := by decide +kernel
set_option maxHeartbeats 4000000 in
set_option maxRecDepth 100000 in
theorem ctX10_placedZ {l : Launch} {D : va_G} {ca : Nat → ClassId} {ad : Nat → Nat}  (x0 : Int32) (x1 : Int32)  (m : Mem) (fin : Int32) (hm : fX10_placed x0 x1 m = some fin) : CI l D ca ad yX10_placed cwX10_placed rmX10_placed [.int x0, .int x1] m fin m := by
  refine start (by decide) (Nat.le_of_ble_eq_true rfl) ?_
  intro p e s mm args below meth c H locs ls X hI hr hl
  have X : CX p s mm args meth c cX10_placed 2 RX10 D ca ad (WA ca ad s.heap.size) := X
  have hx := X.1
  have hb := X.2.1
  have hl : lv_has ls 2 [(0, .int x0), (1, .int x1)] := hl
  have hm : (if (6 : Int32) ≤ x1 then (some (0 : Int32)) else (some (((x0 - (97 : Int32)) + (1 : Int32)) <<< (((5 : Int32) * ((5 : Int32) - x1)) &&& 31)))) = some fin := hm
  have hpm : m = m := rfl
  refine lv_iload_n hx hb dX10_placed_0 rfl (lv_at hl 1 rfl) ?_
  refine lv_bipush (v := (6 : Int32)) hx hb dX10_placed_1 (by decide) ?_
  refine lv_icmp_ge (tgt := 21) hx hb dX10_placed_3 (by decide) (fun c1 => ?_) (fun c1 => ?_)
  · have hm := g_t c1 hm
    refine lv_iconst (v := (0 : Int32)) hx hb dX10_placed_21 (by decide) ?_
    exact rI X hI hr (g_1 hm) hpm dX10_placed_22
  · have hm := g_f c1 hm
    refine lv_iload_n hx hb dX10_placed_6 rfl (lv_at hl 0 rfl) ?_
    refine lv_bipush (v := (97 : Int32)) hx hb dX10_placed_7 (by decide) ?_
    refine lv_isub hx hb dX10_placed_9 ?_
    refine lv_iconst (v := (1 : Int32)) hx hb dX10_placed_10 (by decide) ?_
    refine lv_iadd hx hb dX10_placed_11 ?_
    refine lv_iconst (v := (5 : Int32)) hx hb dX10_placed_12 (by decide) ?_
    refine lv_iconst (v := (5 : Int32)) hx hb dX10_placed_13 (by decide) ?_
    refine lv_iload_n hx hb dX10_placed_14 rfl (lv_at hl 1 rfl) ?_
    refine lv_isub hx hb dX10_placed_15 ?_
    refine lv_imul hx hb dX10_placed_16 ?_
    refine lv_ishl hx hb dX10_placed_17 ?_
    refine lv_goto (tgt := 22) hx hb dX10_placed_18 (by decide) ?_
    exact rI X hI hr (g_1 hm) hpm dX10_placed_22

abbrev cwX10_init : Cond := .code yX10_init cX10_init 6 none
theorem cmX10_init : cwX10_init ∈ BIG := (tb1 (List.mem_of_getElem? (i := 44) rfl) rfl)
theorem pdX10_init : yX10_init.cls ≠ "java/lang/invoke/MethodHandle" ∧ yX10_init.cls ≠ "java/lang/invoke/VarHandle" ∧ (parseMethodDescriptor yX10_init.desc).map (fun d => d.parameters.length) = some 1 := by decide +kernel
theorem moX10_1 : Cond.methodLink RX10 1 Lib.objectInit ∈ BIG := (tb1 (List.mem_of_getElem? (i := 45) rfl) rfl)
theorem ffX10_9 : FPF RX10 9 10 1 2 (.array .int) := ⟨RX10, TX10, 7, tyX10, rfl, by decide, rfl, rfl, inBX10, lkX10_9, tyX10_ok, nmX10, rfl, rfl, rfl⟩
theorem ffX10_13 : FPF RX10 13 10 0 2 (.array .byte) := ⟨RX10, TX10, 7, tyX10, rfl, by decide, rfl, rfl, inBX10, lkX10_13, tyX10_ok, nmX10, rfl, rfl, rfl⟩
abbrev nlX10_init (ca : Nat → Nat) (tb : Nat) (a : Nat → Nat) : va_W := [((a 0), .inr (10, [.ref tb, .ref (a 1), .int 0, .int 0, .int 0, .int 0, .int 0])), ((a 1), .inl (ca 0, 21, .inl (wrdAt 106)))]
abbrev rmcX10_init : Room := { frames := 4, cells := 1, slots := 21, locals := 100 }
set_option maxHeartbeats 4000000 in
set_option maxRecDepth 100000 in
theorem tokLoop {l : Launch} {D : va_G} {ca : Nat → ClassId} {p : Program} {e : Env} {s : State} {mm : MethodId} {args : Array Value} {below : List Frame} {meth : Method} {c : Code} (h0 tb q1 : Nat) (X : CXc p s mm args meth c cX10_init 6 RX10 D ca (va_A [(h0, .inr (10, [.null, .null, .int 0, .int 0, .int 0, .int 0, .int 0]))] s.heap.size)) (hr : meth.sig.returnType = none) : ∀ (n k : Nat), k ≤ 106 → 107 ≤ k + n → ∀ (H : Heap) (locs : List Loc) (ls : Array Slot), va_P D clsL [(h0, .inr (10, [.ref tb, .ref q1, .int 0, .int 0, .int 0, .int 0, .int 0])), (q1, .inl (ca 0, 21, .inl (wrdAt k)))] H → va_D (va_A [(h0, .inr (10, [.null, .null, .int 0, .int 0, .int 0, .int 0, .int 0]))] s.heap.size) [(h0, .inr (10, [.ref tb, .ref q1, .int 0, .int 0, .int 0, .int 0, .int 0])), (q1, .inl (ca 0, 21, .inl (wrdAt k)))] → va_S (va_A [(h0, .inr (10, [.null, .null, .int 0, .int 0, .int 0, .int 0, .int 0]))] s.heap.size) s.heap H locs → lv_has ls 6 [(0, .ref h0), (2, .int (wordAt k)), (3, .int (letAt k)), (4, .int (nI k))] → W p l e rmcX10_init s mm args below meth c H locs 1 21 (MQ below (QC D ca [(h0, .inr (10, [.null, .null, .int 0, .int 0, .int 0, .int 0, .int 0]))] h0 (nlX10_init ca tb) s.heap.size) args s 1 21 (va_A [(h0, .inr (10, [.null, .null, .int 0, .int 0, .int 0, .int 0, .int 0]))] s.heap.size)) (F0 mm 24 ls []) := by
  have hx := X.1
  have hb := X.2.1
  intro n
  induction n with
  | zero => intro k h1 h2; omega
  | succ n ih =>
    intro k h1 h2 H locs ls hP hD hS hl
    refine lv_iload hx hb dX10_init_24 (lv_at hl 3 rfl) ?_
    refine va_ldcS hx hb X.2.2.2.1 X.2.2.2.2.2.2.2.2.2.2.2.1 dX10_init_26 ?_
    refine zback (ad := fun i => i) (m' := ((fun _ _ => 0), (fun _ _ => 0), (fun _ => 0))) X hP hS (zT (i := 0) (As := []) (rest := [.int (nI k)]) X hS (by decide) rfl (sJ0_length (ca := zca ca) 0 (by decide) _ _) mdX10_19 rfl ⟨rfl, rfl⟩ ⟨Nat.le_of_ble_eq_true rfl, Nat.le_of_ble_eq_true rfl⟩ rfl hl.1 rfl (Nat.le_of_ble_eq_true rfl) dX10_init_28 ⟨Nat.le_of_ble_eq_true rfl, Nat.le_of_ble_eq_true rfl⟩) (fun H locs hP hS => ?_)
    refine lv_icmp_ge (tgt := 91) hx hb dX10_init_31 (by decide) (fun c1 => ?_) (fun c1 => ?_)
    · have hk : k = 106 := by
        rcases Nat.lt_or_ge k 106 with z | z
        · exact absurd c1 (nI_ge z (by decide))
        · omega
      subst hk
      exact xRet X hr (fun i => [h0, q1].getD i 0) rfl hP hD hS dX10_init_91
    · have hk : k < 106 := by
        rcases Nat.lt_or_ge k 106 with z | z
        · exact z
        · exact absurd (nI_le z (by omega)) c1
      have hin : ¬ (nI k < 0 ∨ lenS 0 ≤ (nI k).toNatClampNeg) := nI_in hk (by decide)
      have hcl : (nI k).toNatClampNeg = k := nI_clamp (by omega)
      obtain ⟨hw1, hw2⟩ := word_in k hk
      refine va_ldcS hx hb X.2.2.2.1 X.2.2.2.2.2.2.2.2.2.2.2.1 dX10_init_34 ?_
      refine lv_iload hx hb dX10_init_36 (lv_at hl 3 rfl) ?_
      refine zback (ad := fun i => i) (m' := ((fun _ _ => 0), (fun _ _ => 0), (fun _ => 0))) X hP hS (zT (i := 0) (As := [.int (nI k)]) (rest := []) X hS (by decide) rfl (sJ0_charAt (ca := zca ca) 0 (by decide) (nI k) hin _ _) mdX10_25 rfl ⟨rfl, rfl⟩ ⟨Nat.le_of_ble_eq_true rfl, Nat.le_of_ble_eq_true rfl⟩ rfl hl.1 rfl (Nat.le_of_ble_eq_true rfl) dX10_init_38 ⟨Nat.le_of_ble_eq_true rfl, Nat.le_of_ble_eq_true rfl⟩) (fun H locs hP hS => ?_)
      rw [hcl]
      refine lv_istore (lv' := [(5, .int (chS 0 k)), (0, .ref h0), (2, .int (wordAt k)), (3, .int (letAt k)), (4, .int (nI k))]) hx hb dX10_init_41 hl (by decide) rfl (fun ls hl => ?_)
      refine lv_iload hx hb dX10_init_43 (lv_at hl 0 rfl) ?_
      refine lv_bipush (v := 32) hx hb dX10_init_45 (by decide) ?_
      refine lv_icmp_ne (tgt := 58) hx hb dX10_init_47 (by decide) (fun c2 => ?_) (fun c2 => ?_)
      · refine lv_iload_n hx hb dX10_init_58 rfl (lv_at hl 2 rfl) ?_
        refine lv_aload_n hx hb dX10_init_59 rfl (lv_at hl 1 rfl) ?_
        refine xGet (v := .ref q1) X hP fdX10_9 0 rfl rfl dX10_init_60 ?_
        refine va_alen hx hb X.2.2.2.2.2.1 hP 1 0 rfl rfl rfl dX10_init_63 ?_
        refine lv_icmp_ge (tgt := 85) hx hb dX10_init_64 (by decide) (fun c3 => absurd c3 hw2) (fun c3 => ?_)
        refine lv_aload_n hx hb dX10_init_67 rfl (lv_at hl 1 rfl) ?_
        refine xGet (v := .ref q1) X hP fdX10_9 0 rfl rfl dX10_init_68 ?_
        refine lv_iload_n hx hb dX10_init_71 rfl (lv_at hl 2 rfl) ?_
        refine lv_dup2_11 hx hb dX10_init_72 rfl rfl ?_
        refine va_iald hx hb X.2.2.2.2.2.1 hP 1 0 rfl rfl hw1 dX10_init_73 ?_
        refine lv_iload hx hb dX10_init_74 (lv_at hl 0 rfl) ?_
        refine lv_iload_n hx hb dX10_init_76 rfl (lv_at hl 3 rfl) ?_
        have hpl : fX10_placed (chS 0 k) (letAt k) ((fun _ _ => 0), (fun _ _ => 0), (fun _ => 0)) = some (plc (chS 0 k) (letAt k)) := by
          unfold fX10_placed plc
          by_cases z : (6 : Int32) ≤ letAt k
          · rw [if_pos z, if_pos z]
          · rw [if_neg z, if_neg z]
        refine zback (ad := fun i => i) X hP hS (zS (rest := [.int (wrdAt k (wordAt k).toNatClampNeg), .int (wordAt k), .ref q1]) X hS (ctX10_placedZ (ca := zca ca) (chS 0 k) (letAt k) _ _ hpl _) msX10_29 ⟨rfl, rfl⟩ ⟨Nat.le_of_ble_eq_true rfl, Nat.le_of_ble_eq_true rfl⟩ rfl hl.1 rfl (Nat.le_of_ble_eq_true rfl) dX10_init_77 ⟨Nat.le_of_ble_eq_true rfl, Nat.le_of_ble_eq_true rfl⟩) (fun H locs hP hS => ?_)
        refine lv_ior hx hb dX10_init_80 ?_
        refine va_iast hx hb X.2.2.2.2.2.1 hP hD hS 1 0 rfl rfl hw1 dX10_init_81 (fun H locs hP hD hS => ?_)
        have e1 : wrdAt (k + 1) = upd (wrdAt k) (wordAt k).toNatClampNeg (wrdAt k (wordAt k).toNatClampNeg ||| plc (chS 0 k) (letAt k)) := if_neg c2
        have e2 : wordAt (k + 1) = wordAt k := if_neg c2
        have e3 : letAt (k + 1) = letAt k + 1 := if_neg c2
        have hP : va_P D clsL [(h0, .inr (10, [.ref tb, .ref q1, .int 0, .int 0, .int 0, .int 0, .int 0])), (q1, .inl (ca 0, 21, .inl (wrdAt (k + 1))))] H := by rw [e1]; exact hP
        have hD : va_D (va_A [(h0, .inr (10, [.null, .null, .int 0, .int 0, .int 0, .int 0, .int 0]))] s.heap.size) [(h0, .inr (10, [.ref tb, .ref q1, .int 0, .int 0, .int 0, .int 0, .int 0])), (q1, .inl (ca 0, 21, .inl (wrdAt (k + 1))))] := by rw [e1]; exact hD
        refine lv_iinc (v := letAt k + 1) (lv' := [(3, .int (letAt k + 1)), (5, .int (chS 0 k)), (0, .ref h0), (2, .int (wordAt k)), (4, .int (nI k))]) hx hb dX10_init_82 hl (k := 3) rfl rfl (by decide) rfl (fun ls hl => ?_)
        refine lv_iinc (v := nI (k + 1)) (lv' := [(4, .int (nI (k + 1))), (3, .int (letAt k + 1)), (5, .int (chS 0 k)), (0, .ref h0), (2, .int (wordAt k))]) hx hb dX10_init_85 hl (k := 4) rfl (nI_1 k) (by decide) rfl (fun ls hl => ?_)
        refine lv_goto (tgt := 24) hx hb dX10_init_88 (by decide) ?_
        rw [← e2, ← e3] at hl
        exact ih (k + 1) (by omega) (by omega) H locs ls hP hD hS (lv_sub hl [3, 4, 1, 0] rfl)
      · refine lv_iinc (v := wordAt k + 1) (lv' := [(2, .int (wordAt k + 1)), (5, .int (chS 0 k)), (0, .ref h0), (3, .int (letAt k)), (4, .int (nI k))]) hx hb dX10_init_50 hl (k := 2) rfl rfl (by decide) rfl (fun ls hl => ?_)
        refine lv_iconst (v := 0) hx hb dX10_init_53 (by decide) ?_
        refine lv_istore_n (lv' := [(3, .int 0), (2, .int (wordAt k + 1)), (5, .int (chS 0 k)), (0, .ref h0), (4, .int (nI k))]) hx hb dX10_init_54 rfl hl (by decide) rfl (fun ls hl => ?_)
        refine lv_goto (tgt := 85) hx hb dX10_init_55 (by decide) ?_
        have e1 : wrdAt (k + 1) = wrdAt k := if_pos c2
        have e2 : wordAt (k + 1) = wordAt k + 1 := if_pos c2
        have e3 : letAt (k + 1) = 0 := if_pos c2
        have hP : va_P D clsL [(h0, .inr (10, [.ref tb, .ref q1, .int 0, .int 0, .int 0, .int 0, .int 0])), (q1, .inl (ca 0, 21, .inl (wrdAt (k + 1))))] H := by rw [e1]; exact hP
        have hD : va_D (va_A [(h0, .inr (10, [.null, .null, .int 0, .int 0, .int 0, .int 0, .int 0]))] s.heap.size) [(h0, .inr (10, [.ref tb, .ref q1, .int 0, .int 0, .int 0, .int 0, .int 0])), (q1, .inl (ca 0, 21, .inl (wrdAt (k + 1))))] := by rw [e1]; exact hD
        refine lv_iinc (v := nI (k + 1)) (lv' := [(4, .int (nI (k + 1))), (3, .int 0), (2, .int (wordAt k + 1)), (5, .int (chS 0 k)), (0, .ref h0)]) hx hb dX10_init_85 hl (k := 4) rfl (nI_1 k) (by decide) rfl (fun ls hl => ?_)
        refine lv_goto (tgt := 24) hx hb dX10_init_88 (by decide) ?_
        rw [← e2, ← e3] at hl
        exact ih (k + 1) (by omega) (by omega) H locs ls hP hD hS (lv_sub hl [4, 2, 1, 0] rfl)
set_option maxHeartbeats 4000000 in
set_option maxRecDepth 100000 in
theorem ccX10_init {l : Launch} {D : va_G} {ca : Nat → ClassId} (h0 tb : Nat) : CC l D ca yX10_init cwX10_init rmcX10_init [.ref h0, .ref tb] [(h0, .inr (10, [.null, .null, .int 0, .int 0, .int 0, .int 0, .int 0]))] h0 (nlX10_init ca tb) 1 21 := by
  refine startC (by decide) rfl (Nat.le_of_ble_eq_true rfl) ?_
  intro p e s mm args below meth c ls X hin hr hP hD hS hl
  have X : CXc p s mm args meth c cX10_init 6 RX10 D ca (va_A [(h0, .inr (10, [.null, .null, .int 0, .int 0, .int 0, .int 0, .int 0]))] s.heap.size) := X
  have hx := X.1
  have hb := X.2.1
  have hl : lv_has ls 6 [(0, .ref h0), (1, .ref tb)] := hl
  refine lv_aload_n hx hb dX10_init_0 rfl (lv_at hl 0 rfl) ?_
  refine xObj X moX10_1 hl.1 dX10_init_1 (Nat.le_of_ble_eq_true rfl) (Nat.le_of_ble_eq_true rfl) ?_
  refine lv_aload_n hx hb dX10_init_4 rfl (lv_at hl 0 rfl) ?_
  refine lv_bipush (v := (21 : Int32)) hx hb dX10_init_5 (by decide) ?_
  refine xNewI (N' := 21) X hP hD hS (by decide) (by decide) (Nat.le_of_ble_eq_true rfl) (Nat.le_of_ble_eq_true rfl) (Nat.le_of_ble_eq_true rfl) dX10_init_7 (fun q1 H hP hD hS => ?_)
  have hP : va_P D clsL [(h0, .inr (10, [.null, .null, .int 0, .int 0, .int 0, .int 0, .int 0])), (q1, .inl (ca 0, 21, .inl (fun _ => 0)))] H := hP
  have hD : va_D (va_A [(h0, .inr (10, [.null, .null, .int 0, .int 0, .int 0, .int 0, .int 0]))] s.heap.size) [(h0, .inr (10, [.null, .null, .int 0, .int 0, .int 0, .int 0, .int 0])), (q1, .inl (ca 0, 21, .inl (fun _ => 0)))] := hD
  refine W.widen (k := 1) (n := 21) (Nat.le_of_ble_eq_true rfl) (Nat.le_of_ble_eq_true rfl) ?_
  refine xPutF X hin hP hD hS ffX10_9 0 rfl rfl rfl (Nat.le_of_ble_eq_true rfl) dX10_init_9 (fun H locs hP hD hS => ?_)
  have hP : va_P D clsL [(h0, .inr (10, [.null, .ref q1, .int 0, .int 0, .int 0, .int 0, .int 0])), (q1, .inl (ca 0, 21, .inl (fun _ => 0)))] H := hP
  have hD : va_D (va_A [(h0, .inr (10, [.null, .null, .int 0, .int 0, .int 0, .int 0, .int 0]))] s.heap.size) [(h0, .inr (10, [.null, .ref q1, .int 0, .int 0, .int 0, .int 0, .int 0])), (q1, .inl (ca 0, 21, .inl (fun _ => 0)))] := hD
  refine lv_aload_n hx hb dX10_init_12 rfl (lv_at hl 0 rfl) ?_
  refine lv_aload_n hx hb dX10_init_13 rfl (lv_at hl 1 rfl) ?_
  refine xPutF X hin hP hD hS ffX10_13 0 rfl rfl rfl (Nat.le_of_ble_eq_true rfl) dX10_init_14 (fun H locs hP hD hS => ?_)
  have hP : va_P D clsL [(h0, .inr (10, [.ref tb, .ref q1, .int 0, .int 0, .int 0, .int 0, .int 0])), (q1, .inl (ca 0, 21, .inl (fun _ => 0)))] H := hP
  have hD : va_D (va_A [(h0, .inr (10, [.null, .null, .int 0, .int 0, .int 0, .int 0, .int 0]))] s.heap.size) [(h0, .inr (10, [.ref tb, .ref q1, .int 0, .int 0, .int 0, .int 0, .int 0])), (q1, .inl (ca 0, 21, .inl (fun _ => 0)))] := hD
  refine lv_iconst (v := (0 : Int32)) hx hb dX10_init_17 (by decide) ?_
  refine lv_istore_n (lv' := [(2, .int (0 : Int32)), (0, .ref h0), (1, .ref tb)]) hx hb dX10_init_18 rfl hl (by decide) rfl (fun ls hl => ?_)
  refine lv_iconst (v := (0 : Int32)) hx hb dX10_init_19 (by decide) ?_
  refine lv_istore_n (lv' := [(3, .int (0 : Int32)), (2, .int (0 : Int32)), (0, .ref h0), (1, .ref tb)]) hx hb dX10_init_20 rfl hl (by decide) rfl (fun ls hl => ?_)
  refine lv_iconst (v := (0 : Int32)) hx hb dX10_init_21 (by decide) ?_
  refine lv_istore (lv' := [(4, .int (0 : Int32)), (3, .int (0 : Int32)), (2, .int (0 : Int32)), (0, .ref h0), (1, .ref tb)]) hx hb dX10_init_22 hl (by decide) rfl (fun ls hl => ?_)
  exact tokLoop h0 tb q1 X hr 107 0 (by omega) (by omega) H locs ls hP hD hS (lv_sub hl [3, 2, 1, 0] rfl)
