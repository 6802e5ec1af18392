theorem msL_39 : Cond.methodLink RL 39 yL_tub ∈ BIG ∧ Cond.static yL_tub ∈ BIG ∧ Cond.initialized RL ∈ BIG := ⟨(tb5 (List.mem_of_getElem? (i := 167) rfl) rfl), (tb5 (List.mem_of_getElem? (i := 168) rfl) rfl), (tb1 (List.mem_of_getElem? (i := 0) rfl) rfl)⟩
theorem pdL_tub : yL_tub.cls ≠ "java/lang/invoke/MethodHandle" ∧ yL_tub.cls ≠ "java/lang/invoke/VarHandle" ∧ (parseMethodDescriptor yL_tub.desc).map (fun d => d.parameters.length) = some 4 := by decide +kernel
theorem big_inW {w : Cond} (h : w ∈ BIG) : GoodIn BIG (w :: BIG) := fun z hz => by
  rcases List.mem_cons.mp hz with rfl | hz
  · exact ⟨h, BIG_good _ h⟩
  · exact ⟨hz, BIG_good _ hz⟩
theorem wl_kG {D : va_G} {cb : Nat → ClassId} {adb : Nat → Nat} {B : Nat → Prop} {m : Mem} {H H1 : Heap} (hP : va_P D clsL (wl cb adb m) H) (hne : ∀ j, (cb 10 ≤ j ∧ j < cb 9) → adb j < H.size → ¬ B (adb j)) (hk : ∀ z, z < H.size → ¬ B z → H1[z]? = H[z]?) : va_P D clsL (wl cb adb m) H1 := by
  refine hP.kept (fun k x hx => ?_)
  have hl : k < cb 9 - cb 10 := by
    have h1 := (List.getElem?_eq_some_iff.mp hx).1
    rw [wl_len] at h1
    exact h1
  have hlt := (hP k x hx).lt
  rw [wl_at2 hl] at hx
  cases hx
  exact hk _ hlt (hne _ ⟨Nat.le_add_right _ _, Nat.add_lt_of_lt_sub' hl⟩ hlt)
theorem pl_blind {av : List Value} {D : va_G} {ca : Nat → ClassId} {ad : Nat → Nat} {m : Mem} {q : Nat} {o : Nat → Int64} {sz : Nat} : FrameBlind (va_Pc av (PL D ca ad m q o sz)) := fun a U g mk z => by
  obtain ⟨z0, z1, zP, zO, zK, zD, zN, zS, zX⟩ := z
  exact ⟨z0, z1, zP, zO, va_K.moved (u := U) (U := U.calling g mk a) (Vm.Alike.refl U.vm) zK, zD, zN, SK.call zS, PX.call zX⟩
theorem runTub {p : Program} {l : Launch} {e : Env} {s : State} {mm : MethodId} {args : Array Value} {below : List Frame} {meth : Method} {c : Code} {H : Heap} {locs : List Loc} {cells slots : Nat} {D : va_G} {ca ad : Nat → Nat} {pc : Nat} {ls : Array Slot} {cc : ByteArray} {nL : Nat} {mC : Mem} {q : Nat} {o : Nat → Int64} {x1 x2 k r : Int32} (htr : l.stackTraces = false) (X : CX p s mm args meth c cc nL RL D ca ad (fun z : Nat => s.heap.size ≤ z)) (hn : HNc ca) (hC : IW D ca ad (fun z : Nat => s.heap.size ≤ z) s mC H locs) (hO : va_P D clsL (oC ca q o) H) (hne : ∀ i, (ca 10 ≤ i ∧ i < ca 9) → ad i ≠ q) (hq : s.heap.size ≤ q) (hpx : PX (fun z : Nat => s.heap.size ≤ z) s s.heap) (hm : fX11_tub x1 x2 mC = some (k, r)) (hz : ls.size = nL) (hdg : decode cc pc = .ok (.invokestatic 39, 3)) (hf : cells + 1 ≤ room_1.cells ∧ slots + 6 ≤ room_1.slots) :
    va_Run p l e room_1 s mm args below meth c H locs cells slots 1 6 (F0 mm pc ls [.ref q, .int x2, .int x1, .ref (ad 0)]) [] (QLt D ca ad mC q o k r H.size [.ref (ad 0), .int x1, .int x2, .ref q].toArray) (WLo ca ad q H.size) := by
  have hts := X.2.2.2.2.1
  have hwa : ∀ z, WLo ca ad q H.size z → (fun z : Nat => s.heap.size ≤ z) z := fun z h => by
    rcases h with h | rfl
    · exact wa_A X hC.2 z h
    · exact hq
  refine vx_runSW (Ts := BIG) (As := [.ref (ad 0), .int x1, .int x2, .ref q]) ⟨X.1, X.2.1, X.2.2.1, X.2.2.2.1, hts⟩ (ctL_tub htr hn x1 x2 mC k r hm q o H.size) (bytes := cL_tub) (maxL := 5) (ret := some .int) (hh := [(0, 10, 13, 13), (0, 10, 17, 15)]) (n := 4) ⟨⟨rfl, rfl, Nat.le_of_ble_eq_true rfl, Nat.le_of_ble_eq_true rfl, pay_in hts (big_inW cmL_tub), List.mem_cons_self⟩, hts _ cmL_tub, hts _ msL_39.2.2, ⟨pdL_tub.1, pdL_tub.2.1⟩, fun sig h => ?_, hts _ msL_39.1, hts _ msL_39.2.1⟩ ⟨pl_blind, fun U hU hW => ⟨rfl, by rw [hU], by rw [hU]; exact hC.1, by rw [hU]; exact hO, va_K.moved hW.alike X.2.2.2.2.2.1, X.2.2.2.2.2.2.1, hne, by rw [hU]; exact ((X.2.2.2.2.2.2.2.2.2.2.kept (fun z h1 h2 => hC.2.2.1 z h1 h2)).narrow hwa).warm hW, by rw [hU]; exact ((hpx.kept (fun z h1 h2 => hC.2.2.1 z h1 h2)).narrow hwa).warm hW⟩⟩ rfl rfl hz rfl (lv_room (Nat.le_of_ble_eq_true rfl)) hdg hf
  have h2 := pdL_tub.2.2
  rw [h] at h2
  exact (Option.some.inj h2).symm
theorem backTub {p : Program} {l : Launch} {e : Env} {s : State} {mm : MethodId} {args : Array Value} {below : List Frame} {meth : Method} {c : Code} {H : Heap} {locs : List Loc} {cells slots : Nat} {Q : State → Prop} {D : va_G} {ca ad cb adb : Nat → Nat} {pc : Nat} {ls : Array Slot} {cc : ByteArray} {nL : Nat} {mC mR : Mem} {q : Nat} {o : Nat → Int64} {k r : Int32} {a : Array Value} {st0 : List Value} (X : CX p s mm args meth c cc nL RL D ca ad (fun z : Nat => s.heap.size ≤ z)) (hC : IW D ca ad (fun z : Nat => s.heap.size ≤ z) s mC H locs) (hR : va_P D clsL (wl cb adb mR) H) (hq : s.heap.size ≤ q) (hne : ∀ i j, (ca 10 ≤ i ∧ i < ca 9) → (cb 10 ≤ j ∧ j < cb 9) → ad i ≠ adb j) (hneq : ∀ j, (cb 10 ≤ j ∧ j < cb 9) → adb j ≠ q) (hr : va_Run p l e room_1 s mm args below meth c H locs cells slots 1 6 (F0 mm pc ls st0) [] (QLt D ca ad mC q o k r H.size a) (WLo ca ad q H.size))
    (kk : ∀ H1 locs1, IW D ca ad (fun z : Nat => s.heap.size ≤ z) s mC H1 locs1 → va_P D clsL (wl cb adb mR) H1 → va_P D clsL (oC ca q (oNew o k r)) H1 → W p l e room_1 s mm args below meth c H1 locs1 (cells + 1) (slots + 6) Q (F0 mm (pc + 3) ls [.int k])) : W p l e room_1 s mm args below meth c H locs cells slots Q (F0 mm pc ls st0) := by
  have hwa : ∀ z, WLo ca ad q H.size z → (fun z : Nat => s.heap.size ≤ z) z := fun z h => by
    rcases h with h | rfl
    · exact wa_A X hC.2 z h
    · exact hq
  refine va_calli hr hC.2 (fun z _ h => hwa z h) hwa (fun r1 u t H1 locs1 ht hvm hw hB hz1 hk1 hS => ?_)
  obtain ⟨rfl, rfl⟩ := hw
  refine kk H1 locs1 ⟨by rw [← ht]; exact hB.1.1, hS⟩ (wl_kG hR (fun j hj hlt z => ?_) hk1) (by rw [← ht]; exact hB.2)
  rcases z with (⟨i, h1, h2⟩ | h1) | h1
  · exact hne i j h1 hj h2.symm
  · exact absurd hlt (Nat.not_lt.mpr h1)
  · exact hneq j hj h1
set_option maxHeartbeats 4000000 in
set_option maxRecDepth 100000 in
theorem law4 {p : Program} {l : Launch} {e : Env} {s : State} {mm : MethodId} {below : List Frame} {meth : Method} {c : Code} {D : va_G} {ca : Nat → ClassId} {adC adR : Nat → Nat} {b L q k : Nat} {xs : Nat → Int32} (hL : L ≤ 3072) (hk : k + 6 ≤ L) (XC : CX p s mm #[Value.ref b] meth c code 7 RL D (cca ca) adC (fun z : Nat => s.heap.size ≤ z)) (XR : CX p s mm #[Value.ref b] meth c code 7 RL D (rca ca) adR (fun z : Nat => s.heap.size ≤ z)) (hX : va_X b L xs s s.heap) (hbl : b < s.heap.size) (hJ : DJ ca adC adR q) (htr : l.stackTraces = false) (hq : s.heap.size ≤ q) (hpx : PX (fun z : Nat => s.heap.size ≤ z) s s.heap) {Inv : Mem → Mem → Prop} {N : Nat} (hop : OP4 Inv N) (kk : ∀ (mC mR : Mem) (o : Nat → Int64) (H : Heap) (locs : List Loc) (ls : Array Slot), Inv mC mR → IW D (cca ca) adC (fun z : Nat => s.heap.size ≤ z) s mC H locs → va_P D clsL (wl (rca ca) adR mR) H → va_P D clsL (oC ca q o) H → lv_has ls 7 [(0, .ref b), (1, .ref (adC 0)), (2, .ref (adR 99)), (3, .ref q), (4, .int (nI k))] → W p l e room_1 s mm #[Value.ref b] below meth c H locs (144 + k + 1) (5739 + k + 6) (lw_Z below #[Value.ref b] s) (F0 mm 1538 ls [])) (mC mR : Mem) (o : Nat → Int64) (H : Heap) (locs : List Loc) (ls : Array Slot) (hC : IW D (cca ca) adC (fun z : Nat => s.heap.size ≤ z) s mC H locs) (hR : va_P D clsL (wl (rca ca) adR mR) H) (hO : va_P D clsL (oC ca q o) H) (hl : lv_has ls 7 [(0, .ref b), (1, .ref (adC 0)), (2, .ref (adR 99)), (3, .ref q), (4, .int (nI k))]) (hInv : Inv mC mR) : W p l e room_1 s mm #[Value.ref b] below meth c H locs (144 + k) (5739 + k) (lw_Z below #[Value.ref b] s) (F0 mm 364 ls []) := by
  have hx := XC.1
  have hb := XC.2.1
  have hbA : ¬ (fun z : Nat => s.heap.size ≤ z) b := Nat.not_le.mpr hbl
  have hin1 : vp_in (nI k + (1 : Int32)) L := by
    rw [show (1 : Int32) = nI 1 from rfl, nI_add]
    exact vp_in_nI (by omega) (by omega)
  have hin2 : vp_in (nI k + (2 : Int32)) L := by
    rw [show (2 : Int32) = nI 2 from rfl, nI_add]
    exact vp_in_nI (by omega) (by omega)
  obtain ⟨kt, r, bb, mR2, h1, h2, h3, h4, hInv⟩ := hop mC mR (xs (nI k + (1 : Int32)).toNatClampNeg) (xs (nI k + (2 : Int32)).toNatClampNeg) hInv
  refine lv_aload_n hx hb dL_law_364 rfl (lv_at hl 1 rfl) ?_
  refine lv_aload_n hx hb dL_law_365 rfl (lv_at hl 0 rfl) ?_
  refine lv_iload hx hb dL_law_366 (lv_at hl 4 rfl) ?_
  refine lv_iconst (v := 1) hx hb dL_law_368 (by decide) ?_
  refine lv_iadd hx hb dL_law_369 ?_
  refine va_sld hx hb hX hbl hbA hC.2 hin1 dL_law_370 ?_
  refine lv_aload_n hx hb dL_law_371 rfl (lv_at hl 0 rfl) ?_
  refine lv_iload hx hb dL_law_372 (lv_at hl 4 rfl) ?_
  refine lv_iconst (v := 2) hx hb dL_law_374 (by decide) ?_
  refine lv_iadd hx hb dL_law_375 ?_
  refine va_sld hx hb hX hbl hbA hC.2 hin2 dL_law_376 ?_
  refine lv_aload_n hx hb dL_law_377 rfl (lv_at hl 3 rfl) ?_
  refine backTub XC hC hR hq hJ.1 hJ.2.2 (runTub htr XC (HNc_c ca) hC hO hJ.2.1 hq hpx h1 hl.1 dL_law_378 ⟨(show 144 + k + 1 ≤ 601024 by omega), (show 5739 + k + 6 ≤ 7293034 by omega)⟩) (fun H locs hC hR hO => ?_)
  refine lv_istore (lv' := [(5, .int kt), (0, .ref b), (1, .ref (adC 0)), (2, .ref (adR 99)), (3, .ref q), (4, .int (nI k))]) hx hb dL_law_381 hl (by decide) rfl (fun ls hl => ?_)
  refine lv_aload_n hx hb dL_law_383 rfl (lv_at hl 3 rfl) ?_
  refine lv_aload_n hx hb dL_law_384 rfl (lv_at hl 1 rfl) ?_
  refine lv_iload hx hb dL_law_385 (lv_at hl 5 rfl) ?_
  refine lv_iconst (v := 1) hx hb dL_law_387 (by decide) ?_
  refine lv_iadd hx hb dL_law_388 ?_
  refine va_sld hx hb hX hbl hbA hC.2 hin1 dL_law_389 ?_
  refine lv_aload_n hx hb dL_law_390 rfl (lv_at hl 1 rfl) ?_
  refine lv_iload hx hb dL_law_391 (lv_at hl 5 rfl) ?_
  refine lv_iconst (v := 2) hx hb dL_law_393 (by decide) ?_
  refine lv_iadd hx hb dL_law_394 ?_
  refine va_sld hx hb hX hbl hbA hC.2 hin2 dL_law_395 ?_
  have hRI : IW D (rca ca) adR (fun z : Nat => s.heap.size ≤ z) s mR H locs := ⟨hR, hC.2⟩
  refine backIf XR hRI (F := fun H => va_P D clsL (wl (cca ca) adC mC) H ∧ va_P D clsL (oC ca q (oNew o kt r)) H) (fun H1 hk1 => ⟨wl_kF hC.1 (fun i j hi hj e => hJ.1 j i hj hi e.symm) hk1, oC_kF hO hJ.2.2 hk1⟩) (runVt XR hRI (ctX12_tub N (xs (nI k + (1 : Int32)).toNatClampNeg) (xs (nI k + (2 : Int32)).toNatClampNeg) (HNr_r ca) mR (bb, mR2) h2 _) mdL_44 (la_99 (HNr_r ca)) rfl ⟨rfl, rfl⟩ ⟨Nat.le_of_ble_eq_true rfl, Nat.le_of_ble_eq_true rfl⟩ rfl hl.1 rfl (Nat.le_of_ble_eq_true rfl) dL_law_396 ⟨(show 144 + k + 1 + 0 ≤ 601024 by omega), (show 5739 + k + 6 + 0 ≤ 7293034 by omega)⟩) (fun H locs hRI hF => ?_)
  obtain ⟨hC1, hO⟩ := hF
  have hC : IW D (cca ca) adC (fun z : Nat => s.heap.size ≤ z) s mC H locs := ⟨hC1, hRI.2⟩
  refine lv_istore (lv' := [(6, .int bb), (5, .int kt), (0, .ref b), (1, .ref (adC 0)), (2, .ref (adR 99)), (3, .ref q), (4, .int (nI k))]) hx hb dL_law_399 hl (by decide) rfl (fun ls hl => ?_)
  refine lv_aload_n hx hb dL_law_401 rfl (lv_at hl 4 rfl) ?_
  refine backIf XR hRI (F := fun H => va_P D clsL (wl (cca ca) adC mC) H ∧ va_P D clsL (oC ca q (oNew o kt r)) H) (fun H1 hk1 => ⟨wl_kF hC.1 (fun i j hi hj e => hJ.1 j i hj hi e.symm) hk1, oC_kF hO hJ.2.2 hk1⟩) (runVt XR hRI (ctX12_thrown (HNr_r ca) mR2 kt h3 _) mdL_45 (la_99 (HNr_r ca)) rfl ⟨rfl, rfl⟩ ⟨Nat.le_of_ble_eq_true rfl, Nat.le_of_ble_eq_true rfl⟩ rfl hl.1 rfl (Nat.le_of_ble_eq_true rfl) dL_law_402 ⟨(show 144 + k + 1 + 0 ≤ 601024 by omega), (show 5739 + k + 6 + 0 ≤ 7293034 by omega)⟩) (fun H locs hRI hF => ?_)
  obtain ⟨hC1, hO⟩ := hF
  have hC : IW D (cca ca) adC (fun z : Nat => s.heap.size ≤ z) s mC H locs := ⟨hC1, hRI.2⟩
  refine lv_iload hx hb dL_law_405 (lv_at hl 1 rfl) ?_
  refine lv_icmp_eq (tgt := 412) hx hb dL_law_407 (by decide) (fun _ => ?_) (fun cq => absurd rfl cq)
  refine lv_iload hx hb dL_law_412 (lv_at hl 1 rfl) ?_
  refine lv_if_ne (tgt := 429) hx hb dL_law_414 (by decide) (fun cq => ?_) (fun cq => ?_)
  · refine lv_goto (tgt := 1538) hx hb dL_law_429 (by decide) ?_
    exact kk mC mR2 _ H locs ls hInv hC hRI.1 hO (lv_sub hl [2, 3, 4, 5, 6] rfl)
  · have hrb := h4 cq
    refine lv_aload_n hx hb dL_law_417 rfl (lv_at hl 5 rfl) ?_
    refine lv_iconst (v := 0) hx hb dL_law_418 (by decide) ?_
    refine va_lald hx hb XC.2.2.2.2.2.1 hO 0 3 rfl rfl (show ¬ ((0 : Int32) < 0 ∨ 1 ≤ (0 : Int32).toNatClampNeg) by decide) dL_law_419 ?_
    refine lv_iload hx hb dL_law_420 (lv_at hl 0 rfl) ?_
    refine lv_i2l hx hb dL_law_422 rfl ?_
    refine W.lcmp hx hb dL_law_423 ?_
    have ho : oNew o kt r (0 : Int32).toNatClampNeg = bb.toInt64 := by
      rw [← hrb]
      unfold oNew
      rw [if_pos cq]
      exact pk_uLs
    rw [ho]
    refine lv_if_eq (tgt := 429) hx hb dL_law_424 (by decide) (fun _ => ?_) (fun cz => absurd (lg_cmp_self _) cz)
    refine lv_goto (tgt := 1538) hx hb dL_law_429 (by decide) ?_
    exact kk mC mR2 _ H locs ls hInv hC hRI.1 hO (lv_sub hl [2, 3, 4, 5, 6] rfl)
theorem law_next {p : Program} {l : Launch} {e : Env} {s : State} {mm : MethodId} {below : List Frame} {meth : Method} {c : Code} {D : va_G} {ca : Nat → ClassId} {adC adR : Nat → Nat} {b q k : Nat} {Inv : Mem → Mem → Prop} (hx : p.tables.exec = Jvm.exec) (hb : c.code = code) (ih : ∀ (mC mR : Mem) (o : Nat → Int64) (H : Heap) (locs : List Loc) (ls : Array Slot), Inv mC mR → IW D (cca ca) adC (fun z : Nat => s.heap.size ≤ z) s mC H locs → va_P D clsL (wl (rca ca) adR mR) H → va_P D clsL (oC ca q o) H → lv_has ls 7 [(0, .ref b), (1, .ref (adC 0)), (2, .ref (adR 99)), (3, .ref q), (4, .int (nI (k + 6)))] → W p l e room_1 s mm #[Value.ref b] below meth c H locs (144 + (k + 6)) (5739 + (k + 6)) (lw_Z below #[Value.ref b] s) (F0 mm 23 ls [])) : ∀ (mC mR : Mem) (o : Nat → Int64) (H : Heap) (locs : List Loc) (ls : Array Slot), Inv mC mR → IW D (cca ca) adC (fun z : Nat => s.heap.size ≤ z) s mC H locs → va_P D clsL (wl (rca ca) adR mR) H → va_P D clsL (oC ca q o) H → lv_has ls 7 [(0, .ref b), (1, .ref (adC 0)), (2, .ref (adR 99)), (3, .ref q), (4, .int (nI k))] → W p l e room_1 s mm #[Value.ref b] below meth c H locs (144 + k + 1) (5739 + k + 6) (lw_Z below #[Value.ref b] s) (F0 mm 1538 ls []) := by
  intro mC mR o H locs ls hInv hC hR hO hl
  refine W.widen (k := 144 + (k + 6)) (n := 5739 + (k + 6)) (by omega) (by omega) ?_
  refine lv_iinc (v := nI (k + 6)) (lv' := [(4, .int (nI (k + 6))), (0, .ref b), (1, .ref (adC 0)), (2, .ref (adR 99)), (3, .ref q)]) hx hb dL_law_1538 hl (k := 4) rfl (nI_add k 6) (by decide) rfl (fun ls hl => ?_)
  refine lv_goto (tgt := 23) hx hb dL_law_1541 (by decide) ?_
  exact ih mC mR o H locs ls hInv hC hR hO (lv_sub hl [1, 2, 3, 4, 0] rfl)
set_option maxHeartbeats 4000000 in
set_option maxRecDepth 100000 in
theorem law_loop {p : Program} {l : Launch} {e : Env} {s : State} {mm : MethodId} {below : List Frame} {meth : Method} {c : Code} {D : va_G} {ca : Nat → ClassId} {adC adR : Nat → Nat} {b L q : Nat} {xs : Nat → Int32} (hL : L ≤ 3072) (XC : CX p s mm #[Value.ref b] meth c code 7 RL D (cca ca) adC (fun z : Nat => s.heap.size ≤ z)) (XR : CX p s mm #[Value.ref b] meth c code 7 RL D (rca ca) adR (fun z : Nat => s.heap.size ≤ z)) (hX : va_X b L xs s s.heap) (hbl : b < s.heap.size) (hJ : DJ ca adC adR q) (htr : l.stackTraces = false) (hq : s.heap.size ≤ q) (hpx : PX (fun z : Nat => s.heap.size ≤ z) s s.heap) (hr : meth.sig.returnType = ret) {Inv : Mem → Mem → Prop} {N : Nat} (hops : OPS Inv N) : ∀ (n k : Nat), k ≤ L → L + 1 ≤ k + n → ∀ (mC mR : Mem) (o : Nat → Int64) (H : Heap) (locs : List Loc) (ls : Array Slot), Inv mC mR → IW D (cca ca) adC (fun z : Nat => s.heap.size ≤ z) s mC H locs → va_P D clsL (wl (rca ca) adR mR) H → va_P D clsL (oC ca q o) H → lv_has ls 7 [(0, .ref b), (1, .ref (adC 0)), (2, .ref (adR 99)), (3, .ref q), (4, .int (nI k))] → W p l e room_1 s mm #[Value.ref b] below meth c H locs (144 + k) (5739 + k) (lw_Z below #[Value.ref b] s) (F0 mm 23 ls []) := by
  have hx := XC.1
  have hb := XC.2.1
  have hbA : ¬ (fun z : Nat => s.heap.size ≤ z) b := Nat.not_le.mpr hbl
  intro n
  induction n with
  | zero => intro k h1 h2; omega
  | succ n ih =>
    intro k hkL hkn mC mR o H locs ls hInv hC hR hO hl
    refine lv_iload hx hb dL_law_23 (lv_at hl 4 rfl) ?_
    refine lv_aload_n hx hb dL_law_25 rfl (lv_at hl 0 rfl) ?_
    refine va_slen hx hb hX hbl hbA hC.2 dL_law_26 ?_
    refine lv_bipush (v := 6) hx hb dL_law_27 (by decide) ?_
    refine lv_isub hx hb dL_law_29 ?_
    refine lv_icmp_gt (tgt := 1544) hx hb dL_law_30 (by decide) (fun c1 => ?_) (fun c1 => ?_)
    · refine lv_iconst (v := 1) hx hb dL_law_1544 (by decide) ?_
      refine va_forget (fun z hz => hC.2.2.2 z hz) ?_
      refine W.widen (k := 601024) (n := 7293034) (by omega) (by omega) ?_
      exact lw_ret hx hb hr XC.2.2.2.2.2.2.2.2.2.1 dL_law_1545
    · have hk : k + 6 ≤ L := by
        have e1 : (nI L - nI 6).toInt = (L : Int) - 6 := pk_sub_toInt (by omega) (by decide)
        have e2 : (nI k).toInt = (k : Int) := nI_toInt (by omega)
        rcases Nat.lt_or_ge L (k + 6) with z | z
        · refine absurd ?_ c1
          show nI L - nI 6 < nI k
          rw [Int32.lt_iff_toInt_lt, e1, e2]
          omega
        · exact z
      have hin0 : vp_in (nI k) L := vp_in_nI (by omega) (by omega)
      have kk := law_next (p := p) (l := l) (e := e) (s := s) (mm := mm) (below := below) (meth := meth) (c := c) (D := D) (ca := ca) (adC := adC) (adR := adR) (b := b) (q := q) (k := k) (Inv := Inv) hx hb (ih (k + 6) (by omega) (by omega))
      refine lv_aload_n hx hb dL_law_33 rfl (lv_at hl 0 rfl) ?_
      refine lv_iload hx hb dL_law_34 (lv_at hl 4 rfl) ?_
      refine va_sld hx hb hX hbl hbA hC.2 hin0 dL_law_36 ?_
      refine lv_bipush (v := 63) hx hb dL_law_37 (by decide) ?_
      refine lv_iand hx hb dL_law_39 ?_
      refine lv_topi (fun x ex => ?_)
      by_cases c2 : x = (0 : Int32)
      · refine lv_tableIn (tgt := 204) hx hb dL_law_40 (by rw [c2]; decide) (by rw [c2]; decide) (off := 164) (by rw [c2]; decide) (by decide) ?_
        exact law0 hL hk XC XR hX hbl hJ (hops.1) kk mC mR o H locs ls hC hR hO hl hInv
      by_cases c3 : x = (1 : Int32)
      · refine lv_tableIn (tgt := 277) hx hb dL_law_40 (by rw [c3]; decide) (by rw [c3]; decide) (off := 237) (by rw [c3]; decide) (by decide) ?_
        exact law1 hL hk XC XR hX hbl hJ (hops.2.1) kk mC mR o H locs ls hC hR hO hl hInv
      by_cases c4 : x = (2 : Int32)
      · refine lv_tableIn (tgt := 302) hx hb dL_law_40 (by rw [c4]; decide) (by rw [c4]; decide) (off := 262) (by rw [c4]; decide) (by decide) ?_
        exact law2 hL hk XC XR hX hbl hJ (hops.2.2.1) kk mC mR o H locs ls hC hR hO hl hInv
      by_cases c5 : x = (3 : Int32)
      · refine lv_tableIn (tgt := 327) hx hb dL_law_40 (by rw [c5]; decide) (by rw [c5]; decide) (off := 287) (by rw [c5]; decide) (by decide) ?_
        exact law3 hL hk XC XR hX hbl hJ (hops.2.2.2.1) kk mC mR o H locs ls hC hR hO hl hInv
      by_cases c6 : x = (4 : Int32)
      · refine lv_tableIn (tgt := 364) hx hb dL_law_40 (by rw [c6]; decide) (by rw [c6]; decide) (off := 324) (by rw [c6]; decide) (by decide) ?_
        exact law4 hL hk XC XR hX hbl hJ htr hq hpx (hops.2.2.2.2.1) kk mC mR o H locs ls hC hR hO hl hInv
      by_cases c7 : x = (5 : Int32)
      · refine lv_tableIn (tgt := 432) hx hb dL_law_40 (by rw [c7]; decide) (by rw [c7]; decide) (off := 392) (by rw [c7]; decide) (by decide) ?_
        exact law5 hL hk XC XR hX hbl hJ (hops.2.2.2.2.2.1) kk mC mR o H locs ls hC hR hO hl hInv
      by_cases c8 : x = (6 : Int32)
      · refine lv_tableIn (tgt := 469) hx hb dL_law_40 (by rw [c8]; decide) (by rw [c8]; decide) (off := 429) (by rw [c8]; decide) (by decide) ?_
        exact law6 hL hk XC XR hX hbl hJ (hops.2.2.2.2.2.2.1) kk mC mR o H locs ls hC hR hO hl hInv
      by_cases c9 : x = (7 : Int32)
      · refine lv_tableIn (tgt := 506) hx hb dL_law_40 (by rw [c9]; decide) (by rw [c9]; decide) (off := 466) (by rw [c9]; decide) (by decide) ?_
        exact law7 hL hk XC XR hX hbl hJ (hops.2.2.2.2.2.2.2.1) kk mC mR o H locs ls hC hR hO hl hInv
      by_cases c10 : x = (8 : Int32)
      · refine lv_tableIn (tgt := 556) hx hb dL_law_40 (by rw [c10]; decide) (by rw [c10]; decide) (off := 516) (by rw [c10]; decide) (by decide) ?_
        exact law8 hL hk XC XR hX hbl hJ (hops.2.2.2.2.2.2.2.2.1) kk mC mR o H locs ls hC hR hO hl hInv
      by_cases c11 : x = (9 : Int32)
      · refine lv_tableIn (tgt := 593) hx hb dL_law_40 (by rw [c11]; decide) (by rw [c11]; decide) (off := 553) (by rw [c11]; decide) (by decide) ?_
        exact law9 hL hk XC XR hX hbl hJ (hops.2.2.2.2.2.2.2.2.2.1) kk mC mR o H locs ls hC hR hO hl hInv
      by_cases c12 : x = (10 : Int32)
      · refine lv_tableIn (tgt := 642) hx hb dL_law_40 (by rw [c12]; decide) (by rw [c12]; decide) (off := 602) (by rw [c12]; decide) (by decide) ?_
        exact law10 hL hk XC XR hX hbl hJ (hops.2.2.2.2.2.2.2.2.2.2.1) kk mC mR o H locs ls hC hR hO hl hInv
      by_cases c13 : x = (11 : Int32)
      · refine lv_tableIn (tgt := 679) hx hb dL_law_40 (by rw [c13]; decide) (by rw [c13]; decide) (off := 639) (by rw [c13]; decide) (by decide) ?_
        exact law11 hL hk XC XR hX hbl hJ (hops.2.2.2.2.2.2.2.2.2.2.2.1) kk mC mR o H locs ls hC hR hO hl hInv
      by_cases c14 : x = (12 : Int32)
      · refine lv_tableIn (tgt := 704) hx hb dL_law_40 (by rw [c14]; decide) (by rw [c14]; decide) (off := 664) (by rw [c14]; decide) (by decide) ?_
        exact law12 hL hk XC XR hX hbl hJ (hops.2.2.2.2.2.2.2.2.2.2.2.2.1) kk mC mR o H locs ls hC hR hO hl hInv
      by_cases c15 : x = (13 : Int32)
      · refine lv_tableIn (tgt := 729) hx hb dL_law_40 (by rw [c15]; decide) (by rw [c15]; decide) (off := 689) (by rw [c15]; decide) (by decide) ?_
        exact law13 hL hk XC XR hX hbl hJ (hops.2.2.2.2.2.2.2.2.2.2.2.2.2.1) kk mC mR o H locs ls hC hR hO hl hInv
      by_cases c16 : x = (14 : Int32)
      · refine lv_tableIn (tgt := 778) hx hb dL_law_40 (by rw [c16]; decide) (by rw [c16]; decide) (off := 738) (by rw [c16]; decide) (by decide) ?_
        exact law14 hL hk XC XR hX hbl hJ (hops.2.2.2.2.2.2.2.2.2.2.2.2.2.2.1) kk mC mR o H locs ls hC hR hO hl hInv
      by_cases c17 : x = (15 : Int32)
      · refine lv_tableIn (tgt := 815) hx hb dL_law_40 (by rw [c17]; decide) (by rw [c17]; decide) (off := 775) (by rw [c17]; decide) (by decide) ?_
        exact law15 hL hk XC XR hX hbl hJ (hops.2.2.2.2.2.2.2.2.2.2.2.2.2.2.2.1) kk mC mR o H locs ls hC hR hO hl hInv
      by_cases c18 : x = (16 : Int32)
      · refine lv_tableIn (tgt := 840) hx hb dL_law_40 (by rw [c18]; decide) (by rw [c18]; decide) (off := 800) (by rw [c18]; decide) (by decide) ?_
        exact law16 hL hk XC XR hX hbl hJ (hops.2.2.2.2.2.2.2.2.2.2.2.2.2.2.2.2.1) kk mC mR o H locs ls hC hR hO hl hInv
      by_cases c19 : x = (17 : Int32)
      · refine lv_tableIn (tgt := 865) hx hb dL_law_40 (by rw [c19]; decide) (by rw [c19]; decide) (off := 825) (by rw [c19]; decide) (by decide) ?_
        exact law17 hL hk XC XR hX hbl hJ (hops.2.2.2.2.2.2.2.2.2.2.2.2.2.2.2.2.2.1) kk mC mR o H locs ls hC hR hO hl hInv
      by_cases c20 : x = (18 : Int32)
      · refine lv_tableIn (tgt := 902) hx hb dL_law_40 (by rw [c20]; decide) (by rw [c20]; decide) (off := 862) (by rw [c20]; decide) (by decide) ?_
        exact law18 hL hk XC XR hX hbl hJ (hops.2.2.2.2.2.2.2.2.2.2.2.2.2.2.2.2.2.2.1) kk mC mR o H locs ls hC hR hO hl hInv
      by_cases c21 : x = (19 : Int32)
      · refine lv_tableIn (tgt := 927) hx hb dL_law_40 (by rw [c21]; decide) (by rw [c21]; decide) (off := 887) (by rw [c21]; decide) (by decide) ?_
        exact law19 hL hk XC XR hX hbl hJ (hops.2.2.2.2.2.2.2.2.2.2.2.2.2.2.2.2.2.2.2.1) kk mC mR o H locs ls hC hR hO hl hInv
      by_cases c22 : x = (20 : Int32)
      · refine lv_tableIn (tgt := 964) hx hb dL_law_40 (by rw [c22]; decide) (by rw [c22]; decide) (off := 924) (by rw [c22]; decide) (by decide) ?_
        exact law20 hL hk XC XR hX hbl hJ (hops.2.2.2.2.2.2.2.2.2.2.2.2.2.2.2.2.2.2.2.2.1) kk mC mR o H locs ls hC hR hO hl hInv
      by_cases c23 : x = (21 : Int32)
      · refine lv_tableIn (tgt := 989) hx hb dL_law_40 (by rw [c23]; decide) (by rw [c23]; decide) (off := 949) (by rw [c23]; decide) (by decide) ?_
        exact law21 hL hk XC XR hX hbl hJ (hops.2.2.2.2.2.2.2.2.2.2.2.2.2.2.2.2.2.2.2.2.2.1) kk mC mR o H locs ls hC hR hO hl hInv
      by_cases c24 : x = (22 : Int32)
      · refine lv_tableIn (tgt := 1038) hx hb dL_law_40 (by rw [c24]; decide) (by rw [c24]; decide) (off := 998) (by rw [c24]; decide) (by decide) ?_
        exact law22 hL hk XC XR hX hbl hJ (hops.2.2.2.2.2.2.2.2.2.2.2.2.2.2.2.2.2.2.2.2.2.2.1) kk mC mR o H locs ls hC hR hO hl hInv
      by_cases c25 : x = (23 : Int32)
      · refine lv_tableIn (tgt := 1063) hx hb dL_law_40 (by rw [c25]; decide) (by rw [c25]; decide) (off := 1023) (by rw [c25]; decide) (by decide) ?_
        exact law23 hL hk XC XR hX hbl hJ (hops.2.2.2.2.2.2.2.2.2.2.2.2.2.2.2.2.2.2.2.2.2.2.2.1) kk mC mR o H locs ls hC hR hO hl hInv
      by_cases c26 : x = (24 : Int32)
      · refine lv_tableIn (tgt := 1100) hx hb dL_law_40 (by rw [c26]; decide) (by rw [c26]; decide) (off := 1060) (by rw [c26]; decide) (by decide) ?_
        exact law24 hL hk XC XR hX hbl hJ (hops.2.2.2.2.2.2.2.2.2.2.2.2.2.2.2.2.2.2.2.2.2.2.2.2.1) kk mC mR o H locs ls hC hR hO hl hInv
      by_cases c27 : x = (25 : Int32)
      · refine lv_tableIn (tgt := 1149) hx hb dL_law_40 (by rw [c27]; decide) (by rw [c27]; decide) (off := 1109) (by rw [c27]; decide) (by decide) ?_
        exact law25 hL hk XC XR hX hbl hJ (hops.2.2.2.2.2.2.2.2.2.2.2.2.2.2.2.2.2.2.2.2.2.2.2.2.2.1) kk mC mR o H locs ls hC hR hO hl hInv
      by_cases c28 : x = (26 : Int32)
      · refine lv_tableIn (tgt := 1187) hx hb dL_law_40 (by rw [c28]; decide) (by rw [c28]; decide) (off := 1147) (by rw [c28]; decide) (by decide) ?_
        exact law26 hL hk XC XR hX hbl hJ (hops.2.2.2.2.2.2.2.2.2.2.2.2.2.2.2.2.2.2.2.2.2.2.2.2.2.2.1) kk mC mR o H locs ls hC hR hO hl hInv
      by_cases c29 : x = (27 : Int32)
      · refine lv_tableIn (tgt := 1264) hx hb dL_law_40 (by rw [c29]; decide) (by rw [c29]; decide) (off := 1224) (by rw [c29]; decide) (by decide) ?_
        exact law27 hL hk XC XR hX hbl hJ (hops.2.2.2.2.2.2.2.2.2.2.2.2.2.2.2.2.2.2.2.2.2.2.2.2.2.2.2.1) kk mC mR o H locs ls hC hR hO hl hInv
      by_cases c30 : x = (28 : Int32)
      · refine lv_tableIn (tgt := 1289) hx hb dL_law_40 (by rw [c30]; decide) (by rw [c30]; decide) (off := 1249) (by rw [c30]; decide) (by decide) ?_
        exact law28 hL hk XC XR hX hbl hJ (hops.2.2.2.2.2.2.2.2.2.2.2.2.2.2.2.2.2.2.2.2.2.2.2.2.2.2.2.2.1) kk mC mR o H locs ls hC hR hO hl hInv
      by_cases c31 : x = (29 : Int32)
      · refine lv_tableIn (tgt := 1314) hx hb dL_law_40 (by rw [c31]; decide) (by rw [c31]; decide) (off := 1274) (by rw [c31]; decide) (by decide) ?_
        exact law29 hL hk XC XR hX hbl hJ (hops.2.2.2.2.2.2.2.2.2.2.2.2.2.2.2.2.2.2.2.2.2.2.2.2.2.2.2.2.2.1) kk mC mR o H locs ls hC hR hO hl hInv
      by_cases c32 : x = (30 : Int32)
      · refine lv_tableIn (tgt := 1339) hx hb dL_law_40 (by rw [c32]; decide) (by rw [c32]; decide) (off := 1299) (by rw [c32]; decide) (by decide) ?_
        exact law30 hL hk XC XR hX hbl hJ (hops.2.2.2.2.2.2.2.2.2.2.2.2.2.2.2.2.2.2.2.2.2.2.2.2.2.2.2.2.2.2.1) kk mC mR o H locs ls hC hR hO hl hInv
      by_cases c33 : x = (31 : Int32)
      · refine lv_tableIn (tgt := 1376) hx hb dL_law_40 (by rw [c33]; decide) (by rw [c33]; decide) (off := 1336) (by rw [c33]; decide) (by decide) ?_
        exact law31 hL hk XC XR hX hbl hJ (hops.2.2.2.2.2.2.2.2.2.2.2.2.2.2.2.2.2.2.2.2.2.2.2.2.2.2.2.2.2.2.2.1) kk mC mR o H locs ls hC hR hO hl hInv
      by_cases c34 : x = (32 : Int32)
      · refine lv_tableIn (tgt := 1425) hx hb dL_law_40 (by rw [c34]; decide) (by rw [c34]; decide) (off := 1385) (by rw [c34]; decide) (by decide) ?_
        exact law32 hL hk XC XR hX hbl hJ (hops.2.2.2.2.2.2.2.2.2.2.2.2.2.2.2.2.2.2.2.2.2.2.2.2.2.2.2.2.2.2.2.2.1) kk mC mR o H locs ls hC hR hO hl hInv
      by_cases c35 : x = (33 : Int32)
      · refine lv_tableIn (tgt := 1474) hx hb dL_law_40 (by rw [c35]; decide) (by rw [c35]; decide) (off := 1434) (by rw [c35]; decide) (by decide) ?_
        exact law33 hL hk XC XR hX hbl hJ (hops.2.2.2.2.2.2.2.2.2.2.2.2.2.2.2.2.2.2.2.2.2.2.2.2.2.2.2.2.2.2.2.2.2.1) kk mC mR o H locs ls hC hR hO hl hInv
      by_cases c36 : x = (34 : Int32)
      · refine lv_tableIn (tgt := 1487) hx hb dL_law_40 (by rw [c36]; decide) (by rw [c36]; decide) (off := 1447) (by rw [c36]; decide) (by decide) ?_
        exact law34 hL hk XC XR hX hbl hJ (hops.2.2.2.2.2.2.2.2.2.2.2.2.2.2.2.2.2.2.2.2.2.2.2.2.2.2.2.2.2.2.2.2.2.2.1) kk mC mR o H locs ls hC hR hO hl hInv
      by_cases c37 : x = (35 : Int32)
      · refine lv_tableIn (tgt := 1500) hx hb dL_law_40 (by rw [c37]; decide) (by rw [c37]; decide) (off := 1460) (by rw [c37]; decide) (by decide) ?_
        exact law35 hL hk XC XR hX hbl hJ (hops.2.2.2.2.2.2.2.2.2.2.2.2.2.2.2.2.2.2.2.2.2.2.2.2.2.2.2.2.2.2.2.2.2.2.2.1) kk mC mR o H locs ls hC hR hO hl hInv
      by_cases c38 : x = (36 : Int32)
      · refine lv_tableIn (tgt := 1513) hx hb dL_law_40 (by rw [c38]; decide) (by rw [c38]; decide) (off := 1473) (by rw [c38]; decide) (by decide) ?_
        exact law36 hL hk XC XR hX hbl hJ (hops.2.2.2.2.2.2.2.2.2.2.2.2.2.2.2.2.2.2.2.2.2.2.2.2.2.2.2.2.2.2.2.2.2.2.2.2) kk mC mR o H locs ls hC hR hO hl hInv
      have e2 := lv_neT c2 (a := 0) (by decide)
      have e3 := lv_neT c3 (a := 1) (by decide)
      have e4 := lv_neT c4 (a := 2) (by decide)
      have e5 := lv_neT c5 (a := 3) (by decide)
      have e6 := lv_neT c6 (a := 4) (by decide)
      have e7 := lv_neT c7 (a := 5) (by decide)
      have e8 := lv_neT c8 (a := 6) (by decide)
      have e9 := lv_neT c9 (a := 7) (by decide)
      have e10 := lv_neT c10 (a := 8) (by decide)
      have e11 := lv_neT c11 (a := 9) (by decide)
      have e12 := lv_neT c12 (a := 10) (by decide)
      have e13 := lv_neT c13 (a := 11) (by decide)
      have e14 := lv_neT c14 (a := 12) (by decide)
      have e15 := lv_neT c15 (a := 13) (by decide)
      have e16 := lv_neT c16 (a := 14) (by decide)
      have e17 := lv_neT c17 (a := 15) (by decide)
      have e18 := lv_neT c18 (a := 16) (by decide)
      have e19 := lv_neT c19 (a := 17) (by decide)
      have e20 := lv_neT c20 (a := 18) (by decide)
      have e21 := lv_neT c21 (a := 19) (by decide)
      have e22 := lv_neT c22 (a := 20) (by decide)
      have e23 := lv_neT c23 (a := 21) (by decide)
      have e24 := lv_neT c24 (a := 22) (by decide)
      have e25 := lv_neT c25 (a := 23) (by decide)
      have e26 := lv_neT c26 (a := 24) (by decide)
      have e27 := lv_neT c27 (a := 25) (by decide)
      have e28 := lv_neT c28 (a := 26) (by decide)
      have e29 := lv_neT c29 (a := 27) (by decide)
      have e30 := lv_neT c30 (a := 28) (by decide)
      have e31 := lv_neT c31 (a := 29) (by decide)
      have e32 := lv_neT c32 (a := 30) (by decide)
      have e33 := lv_neT c33 (a := 31) (by decide)
      have e34 := lv_neT c34 (a := 32) (by decide)
      have e35 := lv_neT c35 (a := 33) (by decide)
      have e36 := lv_neT c36 (a := 34) (by decide)
      have e37 := lv_neT c37 (a := 35) (by decide)
      have e38 := lv_neT c38 (a := 36) (by decide)
      refine lv_tableOut (tgt := 1538) hx hb dL_law_40 (by omega) (by decide) ?_
      refine W.widen (k := 144 + k + 1) (n := 5739 + k + 6) (by omega) (by omega) ?_
      exact kk mC mR o H locs ls hInv hC hR hO hl
