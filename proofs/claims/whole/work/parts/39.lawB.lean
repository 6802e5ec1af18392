set_option maxHeartbeats 4000000 in
set_option maxRecDepth 100000 in
theorem law0 {p : Program} {l : Launch} {e : Env} {s : State} {mm : MethodId} {below : List Frame} {meth : Method} {c : Code} {D : va_G} {ca : Nat → ClassId} {adC adR : Nat → Nat} {b L q k : Nat} {xs : Nat → Int32} (hL : L ≤ 3072) (hk : k + 6 ≤ L) (XC : CX p s mm #[Value.ref b] meth c code 7 RL D (cca ca) adC (fun z : Nat => s.heap.size ≤ z)) (XR : CX p s mm #[Value.ref b] meth c code 7 RL D (rca ca) adR (fun z : Nat => s.heap.size ≤ z)) (hX : va_X b L xs s s.heap) (hbl : b < s.heap.size) (hJ : DJ ca adC adR q) {Inv : Mem → Mem → Prop} {N : Nat} (hop : OP0 Inv N) (kk : ∀ (mC mR : Mem) (o : Nat → Int64) (H : Heap) (locs : List Loc) (ls : Array Slot), Inv mC mR → IW D (cca ca) adC (fun z : Nat => s.heap.size ≤ z) s mC H locs → va_P D clsL (wl (rca ca) adR mR) H → va_P D clsL (oC ca q o) H → lv_has ls 7 [(0, .ref b), (1, .ref (adC 0)), (2, .ref (adR 99)), (3, .ref q), (4, .int (nI k))] → W p l e room_1 s mm #[Value.ref b] below meth c H locs (144 + k + 1) (5739 + k + 6) (lw_Z below #[Value.ref b] s) (F0 mm 1538 ls [])) (mC mR : Mem) (o : Nat → Int64) (H : Heap) (locs : List Loc) (ls : Array Slot) (hC : IW D (cca ca) adC (fun z : Nat => s.heap.size ≤ z) s mC H locs) (hR : va_P D clsL (wl (rca ca) adR mR) H) (hO : va_P D clsL (oC ca q o) H) (hl : lv_has ls 7 [(0, .ref b), (1, .ref (adC 0)), (2, .ref (adR 99)), (3, .ref q), (4, .int (nI k))]) (hInv : Inv mC mR) : W p l e room_1 s mm #[Value.ref b] below meth c H locs (144 + k) (5739 + k) (lw_Z below #[Value.ref b] s) (F0 mm 204 ls []) := by
  have hx := XC.1
  have hb := XC.2.1
  have hbA : ¬ (fun z : Nat => s.heap.size ≤ z) b := Nat.not_le.mpr hbl
  have hf : (144 + k) + 0 ≤ room_1.cells ∧ (5739 + k) + 0 ≤ room_1.slots := ⟨(show 144 + k + 0 ≤ 601024 by omega), (show 5739 + k + 0 ≤ 7293034 by omega)⟩
  have hin1 : vp_in (nI k + (1 : Int32)) L := by
    rw [show (1 : Int32) = nI 1 from rfl, nI_add]
    exact vp_in_nI (by omega) (by omega)
  have hin2 : vp_in (nI k + (2 : Int32)) L := by
    rw [show (2 : Int32) = nI 2 from rfl, nI_add]
    exact vp_in_nI (by omega) (by omega)
  have hin3 : vp_in (nI k + (3 : Int32)) L := by
    rw [show (3 : Int32) = nI 3 from rfl, nI_add]
    exact vp_in_nI (by omega) (by omega)
  have hin4 : vp_in (nI k + (4 : Int32)) L := by
    rw [show (4 : Int32) = nI 4 from rfl, nI_add]
    exact vp_in_nI (by omega) (by omega)
  have hin5 : vp_in (nI k + (5 : Int32)) L := by
    rw [show (5 : Int32) = nI 5 from rfl, nI_add]
    exact vp_in_nI (by omega) (by omega)
  obtain ⟨r, mC2, mR2, h1, h2, hInv⟩ := hop mC mR (xs (nI k + (1 : Int32)).toNatClampNeg) (xs (nI k + (2 : Int32)).toNatClampNeg) (xs (nI k + (3 : Int32)).toNatClampNeg) (xs (nI k + (4 : Int32)).toNatClampNeg) (xs (nI k + (5 : Int32)).toNatClampNeg) hInv
  refine lv_aload_n hx hb dL_law_204 rfl (lv_at hl 1 rfl) ?_
  refine lv_aload_n hx hb dL_law_205 rfl (lv_at hl 0 rfl) ?_
  refine lv_iload hx hb dL_law_206 (lv_at hl 4 rfl) ?_
  refine lv_iconst (v := 1) hx hb dL_law_208 (by decide) ?_
  refine lv_iadd hx hb dL_law_209 ?_
  refine va_sld hx hb hX hbl hbA hC.2 hin1 dL_law_210 ?_
  refine lv_aload_n hx hb dL_law_211 rfl (lv_at hl 0 rfl) ?_
  refine lv_iload hx hb dL_law_212 (lv_at hl 4 rfl) ?_
  refine lv_iconst (v := 2) hx hb dL_law_214 (by decide) ?_
  refine lv_iadd hx hb dL_law_215 ?_
  refine va_sld hx hb hX hbl hbA hC.2 hin2 dL_law_216 ?_
  refine lv_aload_n hx hb dL_law_217 rfl (lv_at hl 0 rfl) ?_
  refine lv_iload hx hb dL_law_218 (lv_at hl 4 rfl) ?_
  refine lv_iconst (v := 3) hx hb dL_law_220 (by decide) ?_
  refine lv_iadd hx hb dL_law_221 ?_
  refine va_sld hx hb hX hbl hbA hC.2 hin3 dL_law_222 ?_
  refine lv_aload_n hx hb dL_law_223 rfl (lv_at hl 0 rfl) ?_
  refine lv_iload hx hb dL_law_224 (lv_at hl 4 rfl) ?_
  refine lv_iconst (v := 4) hx hb dL_law_226 (by decide) ?_
  refine lv_iadd hx hb dL_law_227 ?_
  refine va_sld hx hb hX hbl hbA hC.2 hin4 dL_law_228 ?_
  refine lv_aload_n hx hb dL_law_229 rfl (lv_at hl 0 rfl) ?_
  refine lv_iload hx hb dL_law_230 (lv_at hl 4 rfl) ?_
  refine lv_iconst (v := 5) hx hb dL_law_232 (by decide) ?_
  refine lv_iadd hx hb dL_law_233 ?_
  refine va_sld hx hb hX hbl hbA hC.2 hin5 dL_law_234 ?_
  refine backIf XC hC (F := fun H => va_P D clsL (wl (rca ca) adR mR) H ∧ va_P D clsL (oC ca q o) H) (fun H1 hk1 => ⟨wl_kF hR hJ.1 hk1, oC_kF hO hJ.2.1 hk1⟩) (runVt XC hC (ctX11_feed N (xs (nI k + (1 : Int32)).toNatClampNeg) (xs (nI k + (2 : Int32)).toNatClampNeg) (xs (nI k + (3 : Int32)).toNatClampNeg) (xs (nI k + (4 : Int32)).toNatClampNeg) (xs (nI k + (5 : Int32)).toNatClampNeg) (HNc_c ca) mC (r, mC2) h1 _) mdL_21 (la_0 (HNc_c ca)) rfl ⟨rfl, rfl⟩ ⟨Nat.le_of_ble_eq_true rfl, Nat.le_of_ble_eq_true rfl⟩ rfl hl.1 rfl (Nat.le_of_ble_eq_true rfl) dL_law_235 hf) (fun H locs hC hF => ?_)
  obtain ⟨hR, hO⟩ := hF
  refine lv_aload_n hx hb dL_law_238 rfl (lv_at hl 2 rfl) ?_
  refine lv_aload_n hx hb dL_law_239 rfl (lv_at hl 0 rfl) ?_
  refine lv_iload hx hb dL_law_240 (lv_at hl 4 rfl) ?_
  refine lv_iconst (v := 1) hx hb dL_law_242 (by decide) ?_
  refine lv_iadd hx hb dL_law_243 ?_
  refine va_sld hx hb hX hbl hbA hC.2 hin1 dL_law_244 ?_
  refine lv_aload_n hx hb dL_law_245 rfl (lv_at hl 0 rfl) ?_
  refine lv_iload hx hb dL_law_246 (lv_at hl 4 rfl) ?_
  refine lv_iconst (v := 2) hx hb dL_law_248 (by decide) ?_
  refine lv_iadd hx hb dL_law_249 ?_
  refine va_sld hx hb hX hbl hbA hC.2 hin2 dL_law_250 ?_
  refine lv_aload_n hx hb dL_law_251 rfl (lv_at hl 0 rfl) ?_
  refine lv_iload hx hb dL_law_252 (lv_at hl 4 rfl) ?_
  refine lv_iconst (v := 3) hx hb dL_law_254 (by decide) ?_
  refine lv_iadd hx hb dL_law_255 ?_
  refine va_sld hx hb hX hbl hbA hC.2 hin3 dL_law_256 ?_
  refine lv_aload_n hx hb dL_law_257 rfl (lv_at hl 0 rfl) ?_
  refine lv_iload hx hb dL_law_258 (lv_at hl 4 rfl) ?_
  refine lv_iconst (v := 4) hx hb dL_law_260 (by decide) ?_
  refine lv_iadd hx hb dL_law_261 ?_
  refine va_sld hx hb hX hbl hbA hC.2 hin4 dL_law_262 ?_
  refine lv_aload_n hx hb dL_law_263 rfl (lv_at hl 0 rfl) ?_
  refine lv_iload hx hb dL_law_264 (lv_at hl 4 rfl) ?_
  refine lv_iconst (v := 5) hx hb dL_law_266 (by decide) ?_
  refine lv_iadd hx hb dL_law_267 ?_
  refine va_sld hx hb hX hbl hbA hC.2 hin5 dL_law_268 ?_
  have hRI : IW D (rca ca) adR (fun z : Nat => s.heap.size ≤ z) s mR H locs := ⟨hR, hC.2⟩
  refine backIf XR hRI (F := fun H => va_P D clsL (wl (cca ca) adC mC2) H ∧ va_P D clsL (oC ca q o) H) (fun H1 hk1 => ⟨wl_kF hC.1 (fun i j hi hj e => hJ.1 j i hj hi e.symm) hk1, oC_kF hO hJ.2.2 hk1⟩) (runVt XR hRI (ctX12_feed N (xs (nI k + (1 : Int32)).toNatClampNeg) (xs (nI k + (2 : Int32)).toNatClampNeg) (xs (nI k + (3 : Int32)).toNatClampNeg) (xs (nI k + (4 : Int32)).toNatClampNeg) (xs (nI k + (5 : Int32)).toNatClampNeg) (HNr_r ca) mR (r, mR2) h2 _) mdL_25 (la_99 (HNr_r ca)) rfl ⟨rfl, rfl⟩ ⟨Nat.le_of_ble_eq_true rfl, Nat.le_of_ble_eq_true rfl⟩ rfl hl.1 rfl (Nat.le_of_ble_eq_true rfl) dL_law_269 hf) (fun H locs hRI hF => ?_)
  obtain ⟨hC, hO⟩ := hF
  refine lv_icmp_eq (tgt := 1538) hx hb dL_law_272 (by decide) (fun _ => ?_) (fun cq => absurd rfl cq)
  refine W.widen (k := 144 + k + 1) (n := 5739 + k + 6) (by omega) (by omega) ?_
  exact kk mC2 mR2 o H locs ls hInv ⟨hC, hRI.2⟩ hRI.1 hO hl
set_option maxHeartbeats 4000000 in
set_option maxRecDepth 100000 in
theorem law1 {p : Program} {l : Launch} {e : Env} {s : State} {mm : MethodId} {below : List Frame} {meth : Method} {c : Code} {D : va_G} {ca : Nat → ClassId} {adC adR : Nat → Nat} {b L q k : Nat} {xs : Nat → Int32} (hL : L ≤ 3072) (hk : k + 6 ≤ L) (XC : CX p s mm #[Value.ref b] meth c code 7 RL D (cca ca) adC (fun z : Nat => s.heap.size ≤ z)) (XR : CX p s mm #[Value.ref b] meth c code 7 RL D (rca ca) adR (fun z : Nat => s.heap.size ≤ z)) (hX : va_X b L xs s s.heap) (hbl : b < s.heap.size) (hJ : DJ ca adC adR q) {Inv : Mem → Mem → Prop} {N : Nat} (hop : OP1 Inv N) (kk : ∀ (mC mR : Mem) (o : Nat → Int64) (H : Heap) (locs : List Loc) (ls : Array Slot), Inv mC mR → IW D (cca ca) adC (fun z : Nat => s.heap.size ≤ z) s mC H locs → va_P D clsL (wl (rca ca) adR mR) H → va_P D clsL (oC ca q o) H → lv_has ls 7 [(0, .ref b), (1, .ref (adC 0)), (2, .ref (adR 99)), (3, .ref q), (4, .int (nI k))] → W p l e room_1 s mm #[Value.ref b] below meth c H locs (144 + k + 1) (5739 + k + 6) (lw_Z below #[Value.ref b] s) (F0 mm 1538 ls [])) (mC mR : Mem) (o : Nat → Int64) (H : Heap) (locs : List Loc) (ls : Array Slot) (hC : IW D (cca ca) adC (fun z : Nat => s.heap.size ≤ z) s mC H locs) (hR : va_P D clsL (wl (rca ca) adR mR) H) (hO : va_P D clsL (oC ca q o) H) (hl : lv_has ls 7 [(0, .ref b), (1, .ref (adC 0)), (2, .ref (adR 99)), (3, .ref q), (4, .int (nI k))]) (hInv : Inv mC mR) : W p l e room_1 s mm #[Value.ref b] below meth c H locs (144 + k) (5739 + k) (lw_Z below #[Value.ref b] s) (F0 mm 277 ls []) := by
  have hx := XC.1
  have hb := XC.2.1
  have hbA : ¬ (fun z : Nat => s.heap.size ≤ z) b := Nat.not_le.mpr hbl
  have hf : (144 + k) + 0 ≤ room_1.cells ∧ (5739 + k) + 0 ≤ room_1.slots := ⟨(show 144 + k + 0 ≤ 601024 by omega), (show 5739 + k + 0 ≤ 7293034 by omega)⟩
  have hin1 : vp_in (nI k + (1 : Int32)) L := by
    rw [show (1 : Int32) = nI 1 from rfl, nI_add]
    exact vp_in_nI (by omega) (by omega)
  obtain ⟨r, mC2, mR2, h1, h2, hInv⟩ := hop mC mR (xs (nI k + (1 : Int32)).toNatClampNeg) hInv
  refine lv_aload_n hx hb dL_law_277 rfl (lv_at hl 1 rfl) ?_
  refine lv_aload_n hx hb dL_law_278 rfl (lv_at hl 0 rfl) ?_
  refine lv_iload hx hb dL_law_279 (lv_at hl 4 rfl) ?_
  refine lv_iconst (v := 1) hx hb dL_law_281 (by decide) ?_
  refine lv_iadd hx hb dL_law_282 ?_
  refine va_sld hx hb hX hbl hbA hC.2 hin1 dL_law_283 ?_
  refine backIf XC hC (F := fun H => va_P D clsL (wl (rca ca) adR mR) H ∧ va_P D clsL (oC ca q o) H) (fun H1 hk1 => ⟨wl_kF hR hJ.1 hk1, oC_kF hO hJ.2.1 hk1⟩) (runVt XC hC (ctX11_text N (xs (nI k + (1 : Int32)).toNatClampNeg) (HNc_c ca) mC (r, mC2) h1 _) mdL_26 (la_0 (HNc_c ca)) rfl ⟨rfl, rfl⟩ ⟨Nat.le_of_ble_eq_true rfl, Nat.le_of_ble_eq_true rfl⟩ rfl hl.1 rfl (Nat.le_of_ble_eq_true rfl) dL_law_284 hf) (fun H locs hC hF => ?_)
  obtain ⟨hR, hO⟩ := hF
  refine lv_aload_n hx hb dL_law_287 rfl (lv_at hl 2 rfl) ?_
  refine lv_aload_n hx hb dL_law_288 rfl (lv_at hl 0 rfl) ?_
  refine lv_iload hx hb dL_law_289 (lv_at hl 4 rfl) ?_
  refine lv_iconst (v := 1) hx hb dL_law_291 (by decide) ?_
  refine lv_iadd hx hb dL_law_292 ?_
  refine va_sld hx hb hX hbl hbA hC.2 hin1 dL_law_293 ?_
  have hRI : IW D (rca ca) adR (fun z : Nat => s.heap.size ≤ z) s mR H locs := ⟨hR, hC.2⟩
  refine backIf XR hRI (F := fun H => va_P D clsL (wl (cca ca) adC mC2) H ∧ va_P D clsL (oC ca q o) H) (fun H1 hk1 => ⟨wl_kF hC.1 (fun i j hi hj e => hJ.1 j i hj hi e.symm) hk1, oC_kF hO hJ.2.2 hk1⟩) (runVt XR hRI (ctX12_text N (xs (nI k + (1 : Int32)).toNatClampNeg) (HNr_r ca) mR (r, mR2) h2 _) mdL_30 (la_99 (HNr_r ca)) rfl ⟨rfl, rfl⟩ ⟨Nat.le_of_ble_eq_true rfl, Nat.le_of_ble_eq_true rfl⟩ rfl hl.1 rfl (Nat.le_of_ble_eq_true rfl) dL_law_294 hf) (fun H locs hRI hF => ?_)
  obtain ⟨hC, hO⟩ := hF
  refine lv_icmp_eq (tgt := 1538) hx hb dL_law_297 (by decide) (fun _ => ?_) (fun cq => absurd rfl cq)
  refine W.widen (k := 144 + k + 1) (n := 5739 + k + 6) (by omega) (by omega) ?_
  exact kk mC2 mR2 o H locs ls hInv ⟨hC, hRI.2⟩ hRI.1 hO hl
set_option maxHeartbeats 4000000 in
set_option maxRecDepth 100000 in
theorem law2 {p : Program} {l : Launch} {e : Env} {s : State} {mm : MethodId} {below : List Frame} {meth : Method} {c : Code} {D : va_G} {ca : Nat → ClassId} {adC adR : Nat → Nat} {b L q k : Nat} {xs : Nat → Int32} (hL : L ≤ 3072) (hk : k + 6 ≤ L) (XC : CX p s mm #[Value.ref b] meth c code 7 RL D (cca ca) adC (fun z : Nat => s.heap.size ≤ z)) (XR : CX p s mm #[Value.ref b] meth c code 7 RL D (rca ca) adR (fun z : Nat => s.heap.size ≤ z)) (hX : va_X b L xs s s.heap) (hbl : b < s.heap.size) (hJ : DJ ca adC adR q) {Inv : Mem → Mem → Prop} {N : Nat} (hop : OP2 Inv N) (kk : ∀ (mC mR : Mem) (o : Nat → Int64) (H : Heap) (locs : List Loc) (ls : Array Slot), Inv mC mR → IW D (cca ca) adC (fun z : Nat => s.heap.size ≤ z) s mC H locs → va_P D clsL (wl (rca ca) adR mR) H → va_P D clsL (oC ca q o) H → lv_has ls 7 [(0, .ref b), (1, .ref (adC 0)), (2, .ref (adR 99)), (3, .ref q), (4, .int (nI k))] → W p l e room_1 s mm #[Value.ref b] below meth c H locs (144 + k + 1) (5739 + k + 6) (lw_Z below #[Value.ref b] s) (F0 mm 1538 ls [])) (mC mR : Mem) (o : Nat → Int64) (H : Heap) (locs : List Loc) (ls : Array Slot) (hC : IW D (cca ca) adC (fun z : Nat => s.heap.size ≤ z) s mC H locs) (hR : va_P D clsL (wl (rca ca) adR mR) H) (hO : va_P D clsL (oC ca q o) H) (hl : lv_has ls 7 [(0, .ref b), (1, .ref (adC 0)), (2, .ref (adR 99)), (3, .ref q), (4, .int (nI k))]) (hInv : Inv mC mR) : W p l e room_1 s mm #[Value.ref b] below meth c H locs (144 + k) (5739 + k) (lw_Z below #[Value.ref b] s) (F0 mm 302 ls []) := by
  have hx := XC.1
  have hb := XC.2.1
  have hbA : ¬ (fun z : Nat => s.heap.size ≤ z) b := Nat.not_le.mpr hbl
  have hf : (144 + k) + 0 ≤ room_1.cells ∧ (5739 + k) + 0 ≤ room_1.slots := ⟨(show 144 + k + 0 ≤ 601024 by omega), (show 5739 + k + 0 ≤ 7293034 by omega)⟩
  have hin1 : vp_in (nI k + (1 : Int32)) L := by
    rw [show (1 : Int32) = nI 1 from rfl, nI_add]
    exact vp_in_nI (by omega) (by omega)
  obtain ⟨r, mR2, h1, h2, hInv⟩ := hop mC mR (xs (nI k + (1 : Int32)).toNatClampNeg) hInv
  refine lv_aload_n hx hb dL_law_302 rfl (lv_at hl 1 rfl) ?_
  refine lv_aload_n hx hb dL_law_303 rfl (lv_at hl 0 rfl) ?_
  refine lv_iload hx hb dL_law_304 (lv_at hl 4 rfl) ?_
  refine lv_iconst (v := 1) hx hb dL_law_306 (by decide) ?_
  refine lv_iadd hx hb dL_law_307 ?_
  refine va_sld hx hb hX hbl hbA hC.2 hin1 dL_law_308 ?_
  refine backIf XC hC (F := fun H => va_P D clsL (wl (rca ca) adR mR) H ∧ va_P D clsL (oC ca q o) H) (fun H1 hk1 => ⟨wl_kF hR hJ.1 hk1, oC_kF hO hJ.2.1 hk1⟩) (runVt XC hC (ctX11_fault (xs (nI k + (1 : Int32)).toNatClampNeg) (HNc_c ca) mC r h1 _) mdL_31 (la_0 (HNc_c ca)) rfl ⟨rfl, rfl⟩ ⟨Nat.le_of_ble_eq_true rfl, Nat.le_of_ble_eq_true rfl⟩ rfl hl.1 rfl (Nat.le_of_ble_eq_true rfl) dL_law_309 hf) (fun H locs hC hF => ?_)
  obtain ⟨hR, hO⟩ := hF
  refine lv_aload_n hx hb dL_law_312 rfl (lv_at hl 2 rfl) ?_
  refine lv_aload_n hx hb dL_law_313 rfl (lv_at hl 0 rfl) ?_
  refine lv_iload hx hb dL_law_314 (lv_at hl 4 rfl) ?_
  refine lv_iconst (v := 1) hx hb dL_law_316 (by decide) ?_
  refine lv_iadd hx hb dL_law_317 ?_
  refine va_sld hx hb hX hbl hbA hC.2 hin1 dL_law_318 ?_
  have hRI : IW D (rca ca) adR (fun z : Nat => s.heap.size ≤ z) s mR H locs := ⟨hR, hC.2⟩
  refine backIf XR hRI (F := fun H => va_P D clsL (wl (cca ca) adC mC) H ∧ va_P D clsL (oC ca q o) H) (fun H1 hk1 => ⟨wl_kF hC.1 (fun i j hi hj e => hJ.1 j i hj hi e.symm) hk1, oC_kF hO hJ.2.2 hk1⟩) (runVt XR hRI (ctX12_fault (xs (nI k + (1 : Int32)).toNatClampNeg) (HNr_r ca) mR (r, mR2) h2 _) mdL_34 (la_99 (HNr_r ca)) rfl ⟨rfl, rfl⟩ ⟨Nat.le_of_ble_eq_true rfl, Nat.le_of_ble_eq_true rfl⟩ rfl hl.1 rfl (Nat.le_of_ble_eq_true rfl) dL_law_319 hf) (fun H locs hRI hF => ?_)
  obtain ⟨hC, hO⟩ := hF
  refine lv_icmp_eq (tgt := 1538) hx hb dL_law_322 (by decide) (fun _ => ?_) (fun cq => absurd rfl cq)
  refine W.widen (k := 144 + k + 1) (n := 5739 + k + 6) (by omega) (by omega) ?_
  exact kk mC mR2 o H locs ls hInv ⟨hC, hRI.2⟩ hRI.1 hO hl
set_option maxHeartbeats 4000000 in
set_option maxRecDepth 100000 in
theorem law3 {p : Program} {l : Launch} {e : Env} {s : State} {mm : MethodId} {below : List Frame} {meth : Method} {c : Code} {D : va_G} {ca : Nat → ClassId} {adC adR : Nat → Nat} {b L q k : Nat} {xs : Nat → Int32} (hL : L ≤ 3072) (hk : k + 6 ≤ L) (XC : CX p s mm #[Value.ref b] meth c code 7 RL D (cca ca) adC (fun z : Nat => s.heap.size ≤ z)) (XR : CX p s mm #[Value.ref b] meth c code 7 RL D (rca ca) adR (fun z : Nat => s.heap.size ≤ z)) (hX : va_X b L xs s s.heap) (hbl : b < s.heap.size) (hJ : DJ ca adC adR q) {Inv : Mem → Mem → Prop} {N : Nat} (hop : OP3 Inv N) (kk : ∀ (mC mR : Mem) (o : Nat → Int64) (H : Heap) (locs : List Loc) (ls : Array Slot), Inv mC mR → IW D (cca ca) adC (fun z : Nat => s.heap.size ≤ z) s mC H locs → va_P D clsL (wl (rca ca) adR mR) H → va_P D clsL (oC ca q o) H → lv_has ls 7 [(0, .ref b), (1, .ref (adC 0)), (2, .ref (adR 99)), (3, .ref q), (4, .int (nI k))] → W p l e room_1 s mm #[Value.ref b] below meth c H locs (144 + k + 1) (5739 + k + 6) (lw_Z below #[Value.ref b] s) (F0 mm 1538 ls [])) (mC mR : Mem) (o : Nat → Int64) (H : Heap) (locs : List Loc) (ls : Array Slot) (hC : IW D (cca ca) adC (fun z : Nat => s.heap.size ≤ z) s mC H locs) (hR : va_P D clsL (wl (rca ca) adR mR) H) (hO : va_P D clsL (oC ca q o) H) (hl : lv_has ls 7 [(0, .ref b), (1, .ref (adC 0)), (2, .ref (adR 99)), (3, .ref q), (4, .int (nI k))]) (hInv : Inv mC mR) : W p l e room_1 s mm #[Value.ref b] below meth c H locs (144 + k) (5739 + k) (lw_Z below #[Value.ref b] s) (F0 mm 327 ls []) := by
  have hx := XC.1
  have hb := XC.2.1
  have hbA : ¬ (fun z : Nat => s.heap.size ≤ z) b := Nat.not_le.mpr hbl
  have hf : (144 + k) + 0 ≤ room_1.cells ∧ (5739 + k) + 0 ≤ room_1.slots := ⟨(show 144 + k + 0 ≤ 601024 by omega), (show 5739 + k + 0 ≤ 7293034 by omega)⟩
  have hin1 : vp_in (nI k + (1 : Int32)) L := by
    rw [show (1 : Int32) = nI 1 from rfl, nI_add]
    exact vp_in_nI (by omega) (by omega)
  have hin2 : vp_in (nI k + (2 : Int32)) L := by
    rw [show (2 : Int32) = nI 2 from rfl, nI_add]
    exact vp_in_nI (by omega) (by omega)
  obtain ⟨r, mR2, h1, h2, hInv⟩ := hop mC mR (xs (nI k + (1 : Int32)).toNatClampNeg) (xs (nI k + (2 : Int32)).toNatClampNeg) hInv
  refine lv_aload_n hx hb dL_law_327 rfl (lv_at hl 1 rfl) ?_
  refine lv_aload_n hx hb dL_law_328 rfl (lv_at hl 0 rfl) ?_
  refine lv_iload hx hb dL_law_329 (lv_at hl 4 rfl) ?_
  refine lv_iconst (v := 1) hx hb dL_law_331 (by decide) ?_
  refine lv_iadd hx hb dL_law_332 ?_
  refine va_sld hx hb hX hbl hbA hC.2 hin1 dL_law_333 ?_
  refine lv_aload_n hx hb dL_law_334 rfl (lv_at hl 0 rfl) ?_
  refine lv_iload hx hb dL_law_335 (lv_at hl 4 rfl) ?_
  refine lv_iconst (v := 2) hx hb dL_law_337 (by decide) ?_
  refine lv_iadd hx hb dL_law_338 ?_
  refine va_sld hx hb hX hbl hbA hC.2 hin2 dL_law_339 ?_
  refine backIf XC hC (F := fun H => va_P D clsL (wl (rca ca) adR mR) H ∧ va_P D clsL (oC ca q o) H) (fun H1 hk1 => ⟨wl_kF hR hJ.1 hk1, oC_kF hO hJ.2.1 hk1⟩) (runVt XC hC (ctX11_named N (xs (nI k + (1 : Int32)).toNatClampNeg) (xs (nI k + (2 : Int32)).toNatClampNeg) (HNc_c ca) mC r h1 _) mdL_35 (la_0 (HNc_c ca)) rfl ⟨rfl, rfl⟩ ⟨Nat.le_of_ble_eq_true rfl, Nat.le_of_ble_eq_true rfl⟩ rfl hl.1 rfl (Nat.le_of_ble_eq_true rfl) dL_law_340 hf) (fun H locs hC hF => ?_)
  obtain ⟨hR, hO⟩ := hF
  refine lv_aload_n hx hb dL_law_343 rfl (lv_at hl 2 rfl) ?_
  refine lv_aload_n hx hb dL_law_344 rfl (lv_at hl 0 rfl) ?_
  refine lv_iload hx hb dL_law_345 (lv_at hl 4 rfl) ?_
  refine lv_iconst (v := 1) hx hb dL_law_347 (by decide) ?_
  refine lv_iadd hx hb dL_law_348 ?_
  refine va_sld hx hb hX hbl hbA hC.2 hin1 dL_law_349 ?_
  refine lv_aload_n hx hb dL_law_350 rfl (lv_at hl 0 rfl) ?_
  refine lv_iload hx hb dL_law_351 (lv_at hl 4 rfl) ?_
  refine lv_iconst (v := 2) hx hb dL_law_353 (by decide) ?_
  refine lv_iadd hx hb dL_law_354 ?_
  refine va_sld hx hb hX hbl hbA hC.2 hin2 dL_law_355 ?_
  have hRI : IW D (rca ca) adR (fun z : Nat => s.heap.size ≤ z) s mR H locs := ⟨hR, hC.2⟩
  refine backIf XR hRI (F := fun H => va_P D clsL (wl (cca ca) adC mC) H ∧ va_P D clsL (oC ca q o) H) (fun H1 hk1 => ⟨wl_kF hC.1 (fun i j hi hj e => hJ.1 j i hj hi e.symm) hk1, oC_kF hO hJ.2.2 hk1⟩) (runVt XR hRI (ctX12_named N (xs (nI k + (1 : Int32)).toNatClampNeg) (xs (nI k + (2 : Int32)).toNatClampNeg) (HNr_r ca) mR (r, mR2) h2 _) mdL_38 (la_99 (HNr_r ca)) rfl ⟨rfl, rfl⟩ ⟨Nat.le_of_ble_eq_true rfl, Nat.le_of_ble_eq_true rfl⟩ rfl hl.1 rfl (Nat.le_of_ble_eq_true rfl) dL_law_356 hf) (fun H locs hRI hF => ?_)
  obtain ⟨hC, hO⟩ := hF
  refine lv_icmp_eq (tgt := 1538) hx hb dL_law_359 (by decide) (fun _ => ?_) (fun cq => absurd rfl cq)
  refine W.widen (k := 144 + k + 1) (n := 5739 + k + 6) (by omega) (by omega) ?_
  exact kk mC mR2 o H locs ls hInv ⟨hC, hRI.2⟩ hRI.1 hO hl
set_option maxHeartbeats 4000000 in
set_option maxRecDepth 100000 in
theorem law5 {p : Program} {l : Launch} {e : Env} {s : State} {mm : MethodId} {below : List Frame} {meth : Method} {c : Code} {D : va_G} {ca : Nat → ClassId} {adC adR : Nat → Nat} {b L q k : Nat} {xs : Nat → Int32} (hL : L ≤ 3072) (hk : k + 6 ≤ L) (XC : CX p s mm #[Value.ref b] meth c code 7 RL D (cca ca) adC (fun z : Nat => s.heap.size ≤ z)) (XR : CX p s mm #[Value.ref b] meth c code 7 RL D (rca ca) adR (fun z : Nat => s.heap.size ≤ z)) (hX : va_X b L xs s s.heap) (hbl : b < s.heap.size) (hJ : DJ ca adC adR q) {Inv : Mem → Mem → Prop} {N : Nat} (hop : OP5 Inv N) (kk : ∀ (mC mR : Mem) (o : Nat → Int64) (H : Heap) (locs : List Loc) (ls : Array Slot), Inv mC mR → IW D (cca ca) adC (fun z : Nat => s.heap.size ≤ z) s mC H locs → va_P D clsL (wl (rca ca) adR mR) H → va_P D clsL (oC ca q o) H → lv_has ls 7 [(0, .ref b), (1, .ref (adC 0)), (2, .ref (adR 99)), (3, .ref q), (4, .int (nI k))] → W p l e room_1 s mm #[Value.ref b] below meth c H locs (144 + k + 1) (5739 + k + 6) (lw_Z below #[Value.ref b] s) (F0 mm 1538 ls [])) (mC mR : Mem) (o : Nat → Int64) (H : Heap) (locs : List Loc) (ls : Array Slot) (hC : IW D (cca ca) adC (fun z : Nat => s.heap.size ≤ z) s mC H locs) (hR : va_P D clsL (wl (rca ca) adR mR) H) (hO : va_P D clsL (oC ca q o) H) (hl : lv_has ls 7 [(0, .ref b), (1, .ref (adC 0)), (2, .ref (adR 99)), (3, .ref q), (4, .int (nI k))]) (hInv : Inv mC mR) : W p l e room_1 s mm #[Value.ref b] below meth c H locs (144 + k) (5739 + k) (lw_Z below #[Value.ref b] s) (F0 mm 432 ls []) := by
  have hx := XC.1
  have hb := XC.2.1
  have hbA : ¬ (fun z : Nat => s.heap.size ≤ z) b := Nat.not_le.mpr hbl
  have hf : (144 + k) + 0 ≤ room_1.cells ∧ (5739 + k) + 0 ≤ room_1.slots := ⟨(show 144 + k + 0 ≤ 601024 by omega), (show 5739 + k + 0 ≤ 7293034 by omega)⟩
  have hin1 : vp_in (nI k + (1 : Int32)) L := by
    rw [show (1 : Int32) = nI 1 from rfl, nI_add]
    exact vp_in_nI (by omega) (by omega)
  have hin2 : vp_in (nI k + (2 : Int32)) L := by
    rw [show (2 : Int32) = nI 2 from rfl, nI_add]
    exact vp_in_nI (by omega) (by omega)
  obtain ⟨r, mR2, h1, h2, hInv⟩ := hop mC mR (xs (nI k + (1 : Int32)).toNatClampNeg) (xs (nI k + (2 : Int32)).toNatClampNeg) hInv
  refine lv_aload_n hx hb dL_law_432 rfl (lv_at hl 1 rfl) ?_
  refine lv_aload_n hx hb dL_law_433 rfl (lv_at hl 0 rfl) ?_
  refine lv_iload hx hb dL_law_434 (lv_at hl 4 rfl) ?_
  refine lv_iconst (v := 1) hx hb dL_law_436 (by decide) ?_
  refine lv_iadd hx hb dL_law_437 ?_
  refine va_sld hx hb hX hbl hbA hC.2 hin1 dL_law_438 ?_
  refine lv_aload_n hx hb dL_law_439 rfl (lv_at hl 0 rfl) ?_
  refine lv_iload hx hb dL_law_440 (lv_at hl 4 rfl) ?_
  refine lv_iconst (v := 2) hx hb dL_law_442 (by decide) ?_
  refine lv_iadd hx hb dL_law_443 ?_
  refine va_sld hx hb hX hbl hbA hC.2 hin2 dL_law_444 ?_
  refine backIf XC hC (F := fun H => va_P D clsL (wl (rca ca) adR mR) H ∧ va_P D clsL (oC ca q o) H) (fun H1 hk1 => ⟨wl_kF hR hJ.1 hk1, oC_kF hO hJ.2.1 hk1⟩) (runVt XC hC (ctX11_knight (xs (nI k + (1 : Int32)).toNatClampNeg) (xs (nI k + (2 : Int32)).toNatClampNeg) (HNc_c ca) mC r h1 _) mdL_49 (la_0 (HNc_c ca)) rfl ⟨rfl, rfl⟩ ⟨Nat.le_of_ble_eq_true rfl, Nat.le_of_ble_eq_true rfl⟩ rfl hl.1 rfl (Nat.le_of_ble_eq_true rfl) dL_law_445 hf) (fun H locs hC hF => ?_)
  obtain ⟨hR, hO⟩ := hF
  refine lv_aload_n hx hb dL_law_448 rfl (lv_at hl 2 rfl) ?_
  refine lv_aload_n hx hb dL_law_449 rfl (lv_at hl 0 rfl) ?_
  refine lv_iload hx hb dL_law_450 (lv_at hl 4 rfl) ?_
  refine lv_iconst (v := 1) hx hb dL_law_452 (by decide) ?_
  refine lv_iadd hx hb dL_law_453 ?_
  refine va_sld hx hb hX hbl hbA hC.2 hin1 dL_law_454 ?_
  refine lv_aload_n hx hb dL_law_455 rfl (lv_at hl 0 rfl) ?_
  refine lv_iload hx hb dL_law_456 (lv_at hl 4 rfl) ?_
  refine lv_iconst (v := 2) hx hb dL_law_458 (by decide) ?_
  refine lv_iadd hx hb dL_law_459 ?_
  refine va_sld hx hb hX hbl hbA hC.2 hin2 dL_law_460 ?_
  have hRI : IW D (rca ca) adR (fun z : Nat => s.heap.size ≤ z) s mR H locs := ⟨hR, hC.2⟩
  refine backIf XR hRI (F := fun H => va_P D clsL (wl (cca ca) adC mC) H ∧ va_P D clsL (oC ca q o) H) (fun H1 hk1 => ⟨wl_kF hC.1 (fun i j hi hj e => hJ.1 j i hj hi e.symm) hk1, oC_kF hO hJ.2.2 hk1⟩) (runVt XR hRI (ctX12_knight (xs (nI k + (1 : Int32)).toNatClampNeg) (xs (nI k + (2 : Int32)).toNatClampNeg) (HNr_r ca) mR (r, mR2) h2 _) mdL_52 (la_99 (HNr_r ca)) rfl ⟨rfl, rfl⟩ ⟨Nat.le_of_ble_eq_true rfl, Nat.le_of_ble_eq_true rfl⟩ rfl hl.1 rfl (Nat.le_of_ble_eq_true rfl) dL_law_461 hf) (fun H locs hRI hF => ?_)
  obtain ⟨hC, hO⟩ := hF
  refine lv_icmp_eq (tgt := 1538) hx hb dL_law_464 (by decide) (fun _ => ?_) (fun cq => absurd rfl cq)
  refine W.widen (k := 144 + k + 1) (n := 5739 + k + 6) (by omega) (by omega) ?_
  exact kk mC mR2 o H locs ls hInv ⟨hC, hRI.2⟩ hRI.1 hO hl
set_option maxHeartbeats 4000000 in
set_option maxRecDepth 100000 in
theorem law6 {p : Program} {l : Launch} {e : Env} {s : State} {mm : MethodId} {below : List Frame} {meth : Method} {c : Code} {D : va_G} {ca : Nat → ClassId} {adC adR : Nat → Nat} {b L q k : Nat} {xs : Nat → Int32} (hL : L ≤ 3072) (hk : k + 6 ≤ L) (XC : CX p s mm #[Value.ref b] meth c code 7 RL D (cca ca) adC (fun z : Nat => s.heap.size ≤ z)) (XR : CX p s mm #[Value.ref b] meth c code 7 RL D (rca ca) adR (fun z : Nat => s.heap.size ≤ z)) (hX : va_X b L xs s s.heap) (hbl : b < s.heap.size) (hJ : DJ ca adC adR q) {Inv : Mem → Mem → Prop} {N : Nat} (hop : OP6 Inv N) (kk : ∀ (mC mR : Mem) (o : Nat → Int64) (H : Heap) (locs : List Loc) (ls : Array Slot), Inv mC mR → IW D (cca ca) adC (fun z : Nat => s.heap.size ≤ z) s mC H locs → va_P D clsL (wl (rca ca) adR mR) H → va_P D clsL (oC ca q o) H → lv_has ls 7 [(0, .ref b), (1, .ref (adC 0)), (2, .ref (adR 99)), (3, .ref q), (4, .int (nI k))] → W p l e room_1 s mm #[Value.ref b] below meth c H locs (144 + k + 1) (5739 + k + 6) (lw_Z below #[Value.ref b] s) (F0 mm 1538 ls [])) (mC mR : Mem) (o : Nat → Int64) (H : Heap) (locs : List Loc) (ls : Array Slot) (hC : IW D (cca ca) adC (fun z : Nat => s.heap.size ≤ z) s mC H locs) (hR : va_P D clsL (wl (rca ca) adR mR) H) (hO : va_P D clsL (oC ca q o) H) (hl : lv_has ls 7 [(0, .ref b), (1, .ref (adC 0)), (2, .ref (adR 99)), (3, .ref q), (4, .int (nI k))]) (hInv : Inv mC mR) : W p l e room_1 s mm #[Value.ref b] below meth c H locs (144 + k) (5739 + k) (lw_Z below #[Value.ref b] s) (F0 mm 469 ls []) := by
  have hx := XC.1
  have hb := XC.2.1
  have hbA : ¬ (fun z : Nat => s.heap.size ≤ z) b := Nat.not_le.mpr hbl
  have hf : (144 + k) + 0 ≤ room_1.cells ∧ (5739 + k) + 0 ≤ room_1.slots := ⟨(show 144 + k + 0 ≤ 601024 by omega), (show 5739 + k + 0 ≤ 7293034 by omega)⟩
  have hin1 : vp_in (nI k + (1 : Int32)) L := by
    rw [show (1 : Int32) = nI 1 from rfl, nI_add]
    exact vp_in_nI (by omega) (by omega)
  have hin2 : vp_in (nI k + (2 : Int32)) L := by
    rw [show (2 : Int32) = nI 2 from rfl, nI_add]
    exact vp_in_nI (by omega) (by omega)
  obtain ⟨r, mC2, mR2, h1, h2, hInv⟩ := hop mC mR (xs (nI k + (1 : Int32)).toNatClampNeg) (xs (nI k + (2 : Int32)).toNatClampNeg) hInv
  refine lv_aload_n hx hb dL_law_469 rfl (lv_at hl 1 rfl) ?_
  refine lv_aload_n hx hb dL_law_470 rfl (lv_at hl 0 rfl) ?_
  refine lv_iload hx hb dL_law_471 (lv_at hl 4 rfl) ?_
  refine lv_iconst (v := 1) hx hb dL_law_473 (by decide) ?_
  refine lv_iadd hx hb dL_law_474 ?_
  refine va_sld hx hb hX hbl hbA hC.2 hin1 dL_law_475 ?_
  refine lv_aload_n hx hb dL_law_476 rfl (lv_at hl 0 rfl) ?_
  refine lv_iload hx hb dL_law_477 (lv_at hl 4 rfl) ?_
  refine lv_iconst (v := 2) hx hb dL_law_479 (by decide) ?_
  refine lv_iadd hx hb dL_law_480 ?_
  refine va_sld hx hb hX hbl hbA hC.2 hin2 dL_law_481 ?_
  refine backIf XC hC (F := fun H => va_P D clsL (wl (rca ca) adR mR) H ∧ va_P D clsL (oC ca q o) H) (fun H1 hk1 => ⟨wl_kF hR hJ.1 hk1, oC_kF hO hJ.2.1 hk1⟩) (runVt XC hC (ctX11_atEase N (xs (nI k + (1 : Int32)).toNatClampNeg) (xs (nI k + (2 : Int32)).toNatClampNeg) (HNc_c ca) mC (r, mC2) h1 _) mdL_53 (la_0 (HNc_c ca)) rfl ⟨rfl, rfl⟩ ⟨Nat.le_of_ble_eq_true rfl, Nat.le_of_ble_eq_true rfl⟩ rfl hl.1 rfl (Nat.le_of_ble_eq_true rfl) dL_law_482 hf) (fun H locs hC hF => ?_)
  obtain ⟨hR, hO⟩ := hF
  refine lv_aload_n hx hb dL_law_485 rfl (lv_at hl 2 rfl) ?_
  refine lv_aload_n hx hb dL_law_486 rfl (lv_at hl 0 rfl) ?_
  refine lv_iload hx hb dL_law_487 (lv_at hl 4 rfl) ?_
  refine lv_iconst (v := 1) hx hb dL_law_489 (by decide) ?_
  refine lv_iadd hx hb dL_law_490 ?_
  refine va_sld hx hb hX hbl hbA hC.2 hin1 dL_law_491 ?_
  refine lv_aload_n hx hb dL_law_492 rfl (lv_at hl 0 rfl) ?_
  refine lv_iload hx hb dL_law_493 (lv_at hl 4 rfl) ?_
  refine lv_iconst (v := 2) hx hb dL_law_495 (by decide) ?_
  refine lv_iadd hx hb dL_law_496 ?_
  refine va_sld hx hb hX hbl hbA hC.2 hin2 dL_law_497 ?_
  have hRI : IW D (rca ca) adR (fun z : Nat => s.heap.size ≤ z) s mR H locs := ⟨hR, hC.2⟩
  refine backIf XR hRI (F := fun H => va_P D clsL (wl (cca ca) adC mC2) H ∧ va_P D clsL (oC ca q o) H) (fun H1 hk1 => ⟨wl_kF hC.1 (fun i j hi hj e => hJ.1 j i hj hi e.symm) hk1, oC_kF hO hJ.2.2 hk1⟩) (runVt XR hRI (ctX12_atEase N (xs (nI k + (1 : Int32)).toNatClampNeg) (xs (nI k + (2 : Int32)).toNatClampNeg) (HNr_r ca) mR (r, mR2) h2 _) mdL_56 (la_99 (HNr_r ca)) rfl ⟨rfl, rfl⟩ ⟨Nat.le_of_ble_eq_true rfl, Nat.le_of_ble_eq_true rfl⟩ rfl hl.1 rfl (Nat.le_of_ble_eq_true rfl) dL_law_498 hf) (fun H locs hRI hF => ?_)
  obtain ⟨hC, hO⟩ := hF
  refine lv_icmp_eq (tgt := 1538) hx hb dL_law_501 (by decide) (fun _ => ?_) (fun cq => absurd rfl cq)
  refine W.widen (k := 144 + k + 1) (n := 5739 + k + 6) (by omega) (by omega) ?_
  exact kk mC2 mR2 o H locs ls hInv ⟨hC, hRI.2⟩ hRI.1 hO hl
set_option maxHeartbeats 4000000 in
set_option maxRecDepth 100000 in
theorem law7 {p : Program} {l : Launch} {e : Env} {s : State} {mm : MethodId} {below : List Frame} {meth : Method} {c : Code} {D : va_G} {ca : Nat → ClassId} {adC adR : Nat → Nat} {b L q k : Nat} {xs : Nat → Int32} (hL : L ≤ 3072) (hk : k + 6 ≤ L) (XC : CX p s mm #[Value.ref b] meth c code 7 RL D (cca ca) adC (fun z : Nat => s.heap.size ≤ z)) (XR : CX p s mm #[Value.ref b] meth c code 7 RL D (rca ca) adR (fun z : Nat => s.heap.size ≤ z)) (hX : va_X b L xs s s.heap) (hbl : b < s.heap.size) (hJ : DJ ca adC adR q) {Inv : Mem → Mem → Prop} {N : Nat} (hop : OP7 Inv N) (kk : ∀ (mC mR : Mem) (o : Nat → Int64) (H : Heap) (locs : List Loc) (ls : Array Slot), Inv mC mR → IW D (cca ca) adC (fun z : Nat => s.heap.size ≤ z) s mC H locs → va_P D clsL (wl (rca ca) adR mR) H → va_P D clsL (oC ca q o) H → lv_has ls 7 [(0, .ref b), (1, .ref (adC 0)), (2, .ref (adR 99)), (3, .ref q), (4, .int (nI k))] → W p l e room_1 s mm #[Value.ref b] below meth c H locs (144 + k + 1) (5739 + k + 6) (lw_Z below #[Value.ref b] s) (F0 mm 1538 ls [])) (mC mR : Mem) (o : Nat → Int64) (H : Heap) (locs : List Loc) (ls : Array Slot) (hC : IW D (cca ca) adC (fun z : Nat => s.heap.size ≤ z) s mC H locs) (hR : va_P D clsL (wl (rca ca) adR mR) H) (hO : va_P D clsL (oC ca q o) H) (hl : lv_has ls 7 [(0, .ref b), (1, .ref (adC 0)), (2, .ref (adR 99)), (3, .ref q), (4, .int (nI k))]) (hInv : Inv mC mR) : W p l e room_1 s mm #[Value.ref b] below meth c H locs (144 + k) (5739 + k) (lw_Z below #[Value.ref b] s) (F0 mm 506 ls []) := by
  have hx := XC.1
  have hb := XC.2.1
  have hbA : ¬ (fun z : Nat => s.heap.size ≤ z) b := Nat.not_le.mpr hbl
  have hf : (144 + k) + 0 ≤ room_1.cells ∧ (5739 + k) + 0 ≤ room_1.slots := ⟨(show 144 + k + 0 ≤ 601024 by omega), (show 5739 + k + 0 ≤ 7293034 by omega)⟩
  have hin1 : vp_in (nI k + (1 : Int32)) L := by
    rw [show (1 : Int32) = nI 1 from rfl, nI_add]
    exact vp_in_nI (by omega) (by omega)
  have hin2 : vp_in (nI k + (2 : Int32)) L := by
    rw [show (2 : Int32) = nI 2 from rfl, nI_add]
    exact vp_in_nI (by omega) (by omega)
  have hin3 : vp_in (nI k + (3 : Int32)) L := by
    rw [show (3 : Int32) = nI 3 from rfl, nI_add]
    exact vp_in_nI (by omega) (by omega)
  obtain ⟨r, mC2, mR2, h1, h2, hInv⟩ := hop mC mR (xs (nI k + (1 : Int32)).toNatClampNeg) (xs (nI k + (2 : Int32)).toNatClampNeg) (xs (nI k + (3 : Int32)).toNatClampNeg) hInv
  refine lv_aload_n hx hb dL_law_506 rfl (lv_at hl 1 rfl) ?_
  refine lv_aload_n hx hb dL_law_507 rfl (lv_at hl 0 rfl) ?_
  refine lv_iload hx hb dL_law_508 (lv_at hl 4 rfl) ?_
  refine lv_iconst (v := 1) hx hb dL_law_510 (by decide) ?_
  refine lv_iadd hx hb dL_law_511 ?_
  refine va_sld hx hb hX hbl hbA hC.2 hin1 dL_law_512 ?_
  refine lv_aload_n hx hb dL_law_513 rfl (lv_at hl 0 rfl) ?_
  refine lv_iload hx hb dL_law_514 (lv_at hl 4 rfl) ?_
  refine lv_iconst (v := 2) hx hb dL_law_516 (by decide) ?_
  refine lv_iadd hx hb dL_law_517 ?_
  refine va_sld hx hb hX hbl hbA hC.2 hin2 dL_law_518 ?_
  refine lv_aload_n hx hb dL_law_519 rfl (lv_at hl 0 rfl) ?_
  refine lv_iload hx hb dL_law_520 (lv_at hl 4 rfl) ?_
  refine lv_iconst (v := 3) hx hb dL_law_522 (by decide) ?_
  refine lv_iadd hx hb dL_law_523 ?_
  refine va_sld hx hb hX hbl hbA hC.2 hin3 dL_law_524 ?_
  refine backLf XC hC (F := fun H => va_P D clsL (wl (rca ca) adR mR) H ∧ va_P D clsL (oC ca q o) H) (fun H1 hk1 => ⟨wl_kF hR hJ.1 hk1, oC_kF hO hJ.2.1 hk1⟩) (runVt XC hC (ctX11_law N (xs (nI k + (1 : Int32)).toNatClampNeg) (xs (nI k + (2 : Int32)).toNatClampNeg) (xs (nI k + (3 : Int32)).toNatClampNeg) (HNc_c ca) mC (r, mC2) h1 _) mdL_57 (la_0 (HNc_c ca)) rfl ⟨rfl, rfl⟩ ⟨Nat.le_of_ble_eq_true rfl, Nat.le_of_ble_eq_true rfl⟩ rfl hl.1 rfl (Nat.le_of_ble_eq_true rfl) dL_law_525 hf) (fun H locs hC hF => ?_)
  obtain ⟨hR, hO⟩ := hF
  refine lv_aload_n hx hb dL_law_528 rfl (lv_at hl 2 rfl) ?_
  refine lv_aload_n hx hb dL_law_529 rfl (lv_at hl 0 rfl) ?_
  refine lv_iload hx hb dL_law_530 (lv_at hl 4 rfl) ?_
  refine lv_iconst (v := 1) hx hb dL_law_532 (by decide) ?_
  refine lv_iadd hx hb dL_law_533 ?_
  refine va_sld hx hb hX hbl hbA hC.2 hin1 dL_law_534 ?_
  refine lv_aload_n hx hb dL_law_535 rfl (lv_at hl 0 rfl) ?_
  refine lv_iload hx hb dL_law_536 (lv_at hl 4 rfl) ?_
  refine lv_iconst (v := 2) hx hb dL_law_538 (by decide) ?_
  refine lv_iadd hx hb dL_law_539 ?_
  refine va_sld hx hb hX hbl hbA hC.2 hin2 dL_law_540 ?_
  refine lv_aload_n hx hb dL_law_541 rfl (lv_at hl 0 rfl) ?_
  refine lv_iload hx hb dL_law_542 (lv_at hl 4 rfl) ?_
  refine lv_iconst (v := 3) hx hb dL_law_544 (by decide) ?_
  refine lv_iadd hx hb dL_law_545 ?_
  refine va_sld hx hb hX hbl hbA hC.2 hin3 dL_law_546 ?_
  have hRI : IW D (rca ca) adR (fun z : Nat => s.heap.size ≤ z) s mR H locs := ⟨hR, hC.2⟩
  refine backLf XR hRI (F := fun H => va_P D clsL (wl (cca ca) adC mC2) H ∧ va_P D clsL (oC ca q o) H) (fun H1 hk1 => ⟨wl_kF hC.1 (fun i j hi hj e => hJ.1 j i hj hi e.symm) hk1, oC_kF hO hJ.2.2 hk1⟩) (runVt XR hRI (ctX12_law N (xs (nI k + (1 : Int32)).toNatClampNeg) (xs (nI k + (2 : Int32)).toNatClampNeg) (xs (nI k + (3 : Int32)).toNatClampNeg) (HNr_r ca) mR (r, mR2) h2 _) mdL_61 (la_99 (HNr_r ca)) rfl ⟨rfl, rfl⟩ ⟨Nat.le_of_ble_eq_true rfl, Nat.le_of_ble_eq_true rfl⟩ rfl hl.1 rfl (Nat.le_of_ble_eq_true rfl) dL_law_547 hf) (fun H locs hRI hF => ?_)
  obtain ⟨hC, hO⟩ := hF
  refine W.lcmp hx hb dL_law_550 ?_
  refine lv_if_eq (tgt := 1538) hx hb dL_law_551 (by decide) (fun _ => ?_) (fun cq => absurd (lg_cmp_self r) cq)
  refine W.widen (k := 144 + k + 1) (n := 5739 + k + 6) (by omega) (by omega) ?_
  exact kk mC2 mR2 o H locs ls hInv ⟨hC, hRI.2⟩ hRI.1 hO hl
set_option maxHeartbeats 4000000 in
set_option maxRecDepth 100000 in
theorem law8 {p : Program} {l : Launch} {e : Env} {s : State} {mm : MethodId} {below : List Frame} {meth : Method} {c : Code} {D : va_G} {ca : Nat → ClassId} {adC adR : Nat → Nat} {b L q k : Nat} {xs : Nat → Int32} (hL : L ≤ 3072) (hk : k + 6 ≤ L) (XC : CX p s mm #[Value.ref b] meth c code 7 RL D (cca ca) adC (fun z : Nat => s.heap.size ≤ z)) (XR : CX p s mm #[Value.ref b] meth c code 7 RL D (rca ca) adR (fun z : Nat => s.heap.size ≤ z)) (hX : va_X b L xs s s.heap) (hbl : b < s.heap.size) (hJ : DJ ca adC adR q) {Inv : Mem → Mem → Prop} {N : Nat} (hop : OP8 Inv N) (kk : ∀ (mC mR : Mem) (o : Nat → Int64) (H : Heap) (locs : List Loc) (ls : Array Slot), Inv mC mR → IW D (cca ca) adC (fun z : Nat => s.heap.size ≤ z) s mC H locs → va_P D clsL (wl (rca ca) adR mR) H → va_P D clsL (oC ca q o) H → lv_has ls 7 [(0, .ref b), (1, .ref (adC 0)), (2, .ref (adR 99)), (3, .ref q), (4, .int (nI k))] → W p l e room_1 s mm #[Value.ref b] below meth c H locs (144 + k + 1) (5739 + k + 6) (lw_Z below #[Value.ref b] s) (F0 mm 1538 ls [])) (mC mR : Mem) (o : Nat → Int64) (H : Heap) (locs : List Loc) (ls : Array Slot) (hC : IW D (cca ca) adC (fun z : Nat => s.heap.size ≤ z) s mC H locs) (hR : va_P D clsL (wl (rca ca) adR mR) H) (hO : va_P D clsL (oC ca q o) H) (hl : lv_has ls 7 [(0, .ref b), (1, .ref (adC 0)), (2, .ref (adR 99)), (3, .ref q), (4, .int (nI k))]) (hInv : Inv mC mR) : W p l e room_1 s mm #[Value.ref b] below meth c H locs (144 + k) (5739 + k) (lw_Z below #[Value.ref b] s) (F0 mm 556 ls []) := by
  have hx := XC.1
  have hb := XC.2.1
  have hbA : ¬ (fun z : Nat => s.heap.size ≤ z) b := Nat.not_le.mpr hbl
  have hf : (144 + k) + 0 ≤ room_1.cells ∧ (5739 + k) + 0 ≤ room_1.slots := ⟨(show 144 + k + 0 ≤ 601024 by omega), (show 5739 + k + 0 ≤ 7293034 by omega)⟩
  have hin1 : vp_in (nI k + (1 : Int32)) L := by
    rw [show (1 : Int32) = nI 1 from rfl, nI_add]
    exact vp_in_nI (by omega) (by omega)
  have hin2 : vp_in (nI k + (2 : Int32)) L := by
    rw [show (2 : Int32) = nI 2 from rfl, nI_add]
    exact vp_in_nI (by omega) (by omega)
  obtain ⟨r, mC2, mR2, h1, h2, hInv⟩ := hop mC mR (xs (nI k + (1 : Int32)).toNatClampNeg) (xs (nI k + (2 : Int32)).toNatClampNeg) hInv
  refine lv_aload_n hx hb dL_law_556 rfl (lv_at hl 1 rfl) ?_
  refine lv_aload_n hx hb dL_law_557 rfl (lv_at hl 0 rfl) ?_
  refine lv_iload hx hb dL_law_558 (lv_at hl 4 rfl) ?_
  refine lv_iconst (v := 1) hx hb dL_law_560 (by decide) ?_
  refine lv_iadd hx hb dL_law_561 ?_
  refine va_sld hx hb hX hbl hbA hC.2 hin1 dL_law_562 ?_
  refine lv_aload_n hx hb dL_law_563 rfl (lv_at hl 0 rfl) ?_
  refine lv_iload hx hb dL_law_564 (lv_at hl 4 rfl) ?_
  refine lv_iconst (v := 2) hx hb dL_law_566 (by decide) ?_
  refine lv_iadd hx hb dL_law_567 ?_
  refine va_sld hx hb hX hbl hbA hC.2 hin2 dL_law_568 ?_
  refine backIf XC hC (F := fun H => va_P D clsL (wl (rca ca) adR mR) H ∧ va_P D clsL (oC ca q o) H) (fun H1 hk1 => ⟨wl_kF hR hJ.1 hk1, oC_kF hO hJ.2.1 hk1⟩) (runVt XC hC (ctX11_add (xs (nI k + (1 : Int32)).toNatClampNeg) (xs (nI k + (2 : Int32)).toNatClampNeg) (HNc_c ca) mC (r, mC2) h1 _) mdL_62 (la_0 (HNc_c ca)) rfl ⟨rfl, rfl⟩ ⟨Nat.le_of_ble_eq_true rfl, Nat.le_of_ble_eq_true rfl⟩ rfl hl.1 rfl (Nat.le_of_ble_eq_true rfl) dL_law_569 hf) (fun H locs hC hF => ?_)
  obtain ⟨hR, hO⟩ := hF
  refine lv_aload_n hx hb dL_law_572 rfl (lv_at hl 2 rfl) ?_
  refine lv_aload_n hx hb dL_law_573 rfl (lv_at hl 0 rfl) ?_
  refine lv_iload hx hb dL_law_574 (lv_at hl 4 rfl) ?_
  refine lv_iconst (v := 1) hx hb dL_law_576 (by decide) ?_
  refine lv_iadd hx hb dL_law_577 ?_
  refine va_sld hx hb hX hbl hbA hC.2 hin1 dL_law_578 ?_
  refine lv_aload_n hx hb dL_law_579 rfl (lv_at hl 0 rfl) ?_
  refine lv_iload hx hb dL_law_580 (lv_at hl 4 rfl) ?_
  refine lv_iconst (v := 2) hx hb dL_law_582 (by decide) ?_
  refine lv_iadd hx hb dL_law_583 ?_
  refine va_sld hx hb hX hbl hbA hC.2 hin2 dL_law_584 ?_
  have hRI : IW D (rca ca) adR (fun z : Nat => s.heap.size ≤ z) s mR H locs := ⟨hR, hC.2⟩
  refine backIf XR hRI (F := fun H => va_P D clsL (wl (cca ca) adC mC2) H ∧ va_P D clsL (oC ca q o) H) (fun H1 hk1 => ⟨wl_kF hC.1 (fun i j hi hj e => hJ.1 j i hj hi e.symm) hk1, oC_kF hO hJ.2.2 hk1⟩) (runVt XR hRI (ctX12_add N (xs (nI k + (1 : Int32)).toNatClampNeg) (xs (nI k + (2 : Int32)).toNatClampNeg) (HNr_r ca) mR (r, mR2) h2 _) mdL_65 (la_99 (HNr_r ca)) rfl ⟨rfl, rfl⟩ ⟨Nat.le_of_ble_eq_true rfl, Nat.le_of_ble_eq_true rfl⟩ rfl hl.1 rfl (Nat.le_of_ble_eq_true rfl) dL_law_585 hf) (fun H locs hRI hF => ?_)
  obtain ⟨hC, hO⟩ := hF
  refine lv_icmp_eq (tgt := 1538) hx hb dL_law_588 (by decide) (fun _ => ?_) (fun cq => absurd rfl cq)
  refine W.widen (k := 144 + k + 1) (n := 5739 + k + 6) (by omega) (by omega) ?_
  exact kk mC2 mR2 o H locs ls hInv ⟨hC, hRI.2⟩ hRI.1 hO hl
set_option maxHeartbeats 4000000 in
set_option maxRecDepth 100000 in
theorem law9 {p : Program} {l : Launch} {e : Env} {s : State} {mm : MethodId} {below : List Frame} {meth : Method} {c : Code} {D : va_G} {ca : Nat → ClassId} {adC adR : Nat → Nat} {b L q k : Nat} {xs : Nat → Int32} (hL : L ≤ 3072) (hk : k + 6 ≤ L) (XC : CX p s mm #[Value.ref b] meth c code 7 RL D (cca ca) adC (fun z : Nat => s.heap.size ≤ z)) (XR : CX p s mm #[Value.ref b] meth c code 7 RL D (rca ca) adR (fun z : Nat => s.heap.size ≤ z)) (hX : va_X b L xs s s.heap) (hbl : b < s.heap.size) (hJ : DJ ca adC adR q) {Inv : Mem → Mem → Prop} {N : Nat} (hop : OP9 Inv N) (kk : ∀ (mC mR : Mem) (o : Nat → Int64) (H : Heap) (locs : List Loc) (ls : Array Slot), Inv mC mR → IW D (cca ca) adC (fun z : Nat => s.heap.size ≤ z) s mC H locs → va_P D clsL (wl (rca ca) adR mR) H → va_P D clsL (oC ca q o) H → lv_has ls 7 [(0, .ref b), (1, .ref (adC 0)), (2, .ref (adR 99)), (3, .ref q), (4, .int (nI k))] → W p l e room_1 s mm #[Value.ref b] below meth c H locs (144 + k + 1) (5739 + k + 6) (lw_Z below #[Value.ref b] s) (F0 mm 1538 ls [])) (mC mR : Mem) (o : Nat → Int64) (H : Heap) (locs : List Loc) (ls : Array Slot) (hC : IW D (cca ca) adC (fun z : Nat => s.heap.size ≤ z) s mC H locs) (hR : va_P D clsL (wl (rca ca) adR mR) H) (hO : va_P D clsL (oC ca q o) H) (hl : lv_has ls 7 [(0, .ref b), (1, .ref (adC 0)), (2, .ref (adR 99)), (3, .ref q), (4, .int (nI k))]) (hInv : Inv mC mR) : W p l e room_1 s mm #[Value.ref b] below meth c H locs (144 + k) (5739 + k) (lw_Z below #[Value.ref b] s) (F0 mm 593 ls []) := by
  have hx := XC.1
  have hb := XC.2.1
  have hbA : ¬ (fun z : Nat => s.heap.size ≤ z) b := Nat.not_le.mpr hbl
  have hf : (144 + k) + 0 ≤ room_1.cells ∧ (5739 + k) + 0 ≤ room_1.slots := ⟨(show 144 + k + 0 ≤ 601024 by omega), (show 5739 + k + 0 ≤ 7293034 by omega)⟩
  have hin1 : vp_in (nI k + (1 : Int32)) L := by
    rw [show (1 : Int32) = nI 1 from rfl, nI_add]
    exact vp_in_nI (by omega) (by omega)
  have hin2 : vp_in (nI k + (2 : Int32)) L := by
    rw [show (2 : Int32) = nI 2 from rfl, nI_add]
    exact vp_in_nI (by omega) (by omega)
  have hin3 : vp_in (nI k + (3 : Int32)) L := by
    rw [show (3 : Int32) = nI 3 from rfl, nI_add]
    exact vp_in_nI (by omega) (by omega)
  obtain ⟨r, mC2, mR2, h1, h2, hInv⟩ := hop mC mR (xs (nI k + (1 : Int32)).toNatClampNeg) (xs (nI k + (2 : Int32)).toNatClampNeg) (xs (nI k + (3 : Int32)).toNatClampNeg) hInv
  refine lv_aload_n hx hb dL_law_593 rfl (lv_at hl 1 rfl) ?_
  refine lv_aload_n hx hb dL_law_594 rfl (lv_at hl 0 rfl) ?_
  refine lv_iload hx hb dL_law_595 (lv_at hl 4 rfl) ?_
  refine lv_iconst (v := 1) hx hb dL_law_597 (by decide) ?_
  refine lv_iadd hx hb dL_law_598 ?_
  refine va_sld hx hb hX hbl hbA hC.2 hin1 dL_law_599 ?_
  refine lv_aload_n hx hb dL_law_600 rfl (lv_at hl 0 rfl) ?_
  refine lv_iload hx hb dL_law_601 (lv_at hl 4 rfl) ?_
  refine lv_iconst (v := 2) hx hb dL_law_603 (by decide) ?_
  refine lv_iadd hx hb dL_law_604 ?_
  refine va_sld hx hb hX hbl hbA hC.2 hin2 dL_law_605 ?_
  refine lv_aload_n hx hb dL_law_606 rfl (lv_at hl 0 rfl) ?_
  refine lv_iload hx hb dL_law_607 (lv_at hl 4 rfl) ?_
  refine lv_iconst (v := 3) hx hb dL_law_609 (by decide) ?_
  refine lv_iadd hx hb dL_law_610 ?_
  refine va_sld hx hb hX hbl hbA hC.2 hin3 dL_law_611 ?_
  refine backIf XC hC (F := fun H => va_P D clsL (wl (rca ca) adR mR) H ∧ va_P D clsL (oC ca q o) H) (fun H1 hk1 => ⟨wl_kF hR hJ.1 hk1, oC_kF hO hJ.2.1 hk1⟩) (runVt XC hC (ctX11_pour (xs (nI k + (1 : Int32)).toNatClampNeg) (xs (nI k + (2 : Int32)).toNatClampNeg) (xs (nI k + (3 : Int32)).toNatClampNeg) (HNc_c ca) mC (r, mC2) h1 _) mdL_66 (la_0 (HNc_c ca)) rfl ⟨rfl, rfl⟩ ⟨Nat.le_of_ble_eq_true rfl, Nat.le_of_ble_eq_true rfl⟩ rfl hl.1 rfl (Nat.le_of_ble_eq_true rfl) dL_law_612 hf) (fun H locs hC hF => ?_)
  obtain ⟨hR, hO⟩ := hF
  refine lv_aload_n hx hb dL_law_615 rfl (lv_at hl 2 rfl) ?_
  refine lv_aload_n hx hb dL_law_616 rfl (lv_at hl 0 rfl) ?_
  refine lv_iload hx hb dL_law_617 (lv_at hl 4 rfl) ?_
  refine lv_iconst (v := 1) hx hb dL_law_619 (by decide) ?_
  refine lv_iadd hx hb dL_law_620 ?_
  refine va_sld hx hb hX hbl hbA hC.2 hin1 dL_law_621 ?_
  refine lv_aload_n hx hb dL_law_622 rfl (lv_at hl 0 rfl) ?_
  refine lv_iload hx hb dL_law_623 (lv_at hl 4 rfl) ?_
  refine lv_iconst (v := 2) hx hb dL_law_625 (by decide) ?_
  refine lv_iadd hx hb dL_law_626 ?_
  refine va_sld hx hb hX hbl hbA hC.2 hin2 dL_law_627 ?_
  refine lv_aload_n hx hb dL_law_628 rfl (lv_at hl 0 rfl) ?_
  refine lv_iload hx hb dL_law_629 (lv_at hl 4 rfl) ?_
  refine lv_iconst (v := 3) hx hb dL_law_631 (by decide) ?_
  refine lv_iadd hx hb dL_law_632 ?_
  refine va_sld hx hb hX hbl hbA hC.2 hin3 dL_law_633 ?_
  have hRI : IW D (rca ca) adR (fun z : Nat => s.heap.size ≤ z) s mR H locs := ⟨hR, hC.2⟩
  refine backIf XR hRI (F := fun H => va_P D clsL (wl (cca ca) adC mC2) H ∧ va_P D clsL (oC ca q o) H) (fun H1 hk1 => ⟨wl_kF hC.1 (fun i j hi hj e => hJ.1 j i hj hi e.symm) hk1, oC_kF hO hJ.2.2 hk1⟩) (runVt XR hRI (ctX12_pour N (xs (nI k + (1 : Int32)).toNatClampNeg) (xs (nI k + (2 : Int32)).toNatClampNeg) (xs (nI k + (3 : Int32)).toNatClampNeg) (HNr_r ca) mR (r, mR2) h2 _) mdL_70 (la_99 (HNr_r ca)) rfl ⟨rfl, rfl⟩ ⟨Nat.le_of_ble_eq_true rfl, Nat.le_of_ble_eq_true rfl⟩ rfl hl.1 rfl (Nat.le_of_ble_eq_true rfl) dL_law_634 hf) (fun H locs hRI hF => ?_)
  obtain ⟨hC, hO⟩ := hF
  refine lv_icmp_eq (tgt := 1538) hx hb dL_law_637 (by decide) (fun _ => ?_) (fun cq => absurd rfl cq)
  refine W.widen (k := 144 + k + 1) (n := 5739 + k + 6) (by omega) (by omega) ?_
  exact kk mC2 mR2 o H locs ls hInv ⟨hC, hRI.2⟩ hRI.1 hO hl
set_option maxHeartbeats 4000000 in
set_option maxRecDepth 100000 in
theorem law10 {p : Program} {l : Launch} {e : Env} {s : State} {mm : MethodId} {below : List Frame} {meth : Method} {c : Code} {D : va_G} {ca : Nat → ClassId} {adC adR : Nat → Nat} {b L q k : Nat} {xs : Nat → Int32} (hL : L ≤ 3072) (hk : k + 6 ≤ L) (XC : CX p s mm #[Value.ref b] meth c code 7 RL D (cca ca) adC (fun z : Nat => s.heap.size ≤ z)) (XR : CX p s mm #[Value.ref b] meth c code 7 RL D (rca ca) adR (fun z : Nat => s.heap.size ≤ z)) (hX : va_X b L xs s s.heap) (hbl : b < s.heap.size) (hJ : DJ ca adC adR q) {Inv : Mem → Mem → Prop} {N : Nat} (hop : OP10 Inv N) (kk : ∀ (mC mR : Mem) (o : Nat → Int64) (H : Heap) (locs : List Loc) (ls : Array Slot), Inv mC mR → IW D (cca ca) adC (fun z : Nat => s.heap.size ≤ z) s mC H locs → va_P D clsL (wl (rca ca) adR mR) H → va_P D clsL (oC ca q o) H → lv_has ls 7 [(0, .ref b), (1, .ref (adC 0)), (2, .ref (adR 99)), (3, .ref q), (4, .int (nI k))] → W p l e room_1 s mm #[Value.ref b] below meth c H locs (144 + k + 1) (5739 + k + 6) (lw_Z below #[Value.ref b] s) (F0 mm 1538 ls [])) (mC mR : Mem) (o : Nat → Int64) (H : Heap) (locs : List Loc) (ls : Array Slot) (hC : IW D (cca ca) adC (fun z : Nat => s.heap.size ≤ z) s mC H locs) (hR : va_P D clsL (wl (rca ca) adR mR) H) (hO : va_P D clsL (oC ca q o) H) (hl : lv_has ls 7 [(0, .ref b), (1, .ref (adC 0)), (2, .ref (adR 99)), (3, .ref q), (4, .int (nI k))]) (hInv : Inv mC mR) : W p l e room_1 s mm #[Value.ref b] below meth c H locs (144 + k) (5739 + k) (lw_Z below #[Value.ref b] s) (F0 mm 642 ls []) := by
  have hx := XC.1
  have hb := XC.2.1
  have hbA : ¬ (fun z : Nat => s.heap.size ≤ z) b := Nat.not_le.mpr hbl
  have hf : (144 + k) + 0 ≤ room_1.cells ∧ (5739 + k) + 0 ≤ room_1.slots := ⟨(show 144 + k + 0 ≤ 601024 by omega), (show 5739 + k + 0 ≤ 7293034 by omega)⟩
  have hin1 : vp_in (nI k + (1 : Int32)) L := by
    rw [show (1 : Int32) = nI 1 from rfl, nI_add]
    exact vp_in_nI (by omega) (by omega)
  have hin2 : vp_in (nI k + (2 : Int32)) L := by
    rw [show (2 : Int32) = nI 2 from rfl, nI_add]
    exact vp_in_nI (by omega) (by omega)
  obtain ⟨r, mC2, mR2, h1, h2, hInv⟩ := hop mC mR (xs (nI k + (1 : Int32)).toNatClampNeg) (xs (nI k + (2 : Int32)).toNatClampNeg) hInv
  refine lv_aload_n hx hb dL_law_642 rfl (lv_at hl 1 rfl) ?_
  refine lv_aload_n hx hb dL_law_643 rfl (lv_at hl 0 rfl) ?_
  refine lv_iload hx hb dL_law_644 (lv_at hl 4 rfl) ?_
  refine lv_iconst (v := 1) hx hb dL_law_646 (by decide) ?_
  refine lv_iadd hx hb dL_law_647 ?_
  refine va_sld hx hb hX hbl hbA hC.2 hin1 dL_law_648 ?_
  refine lv_aload_n hx hb dL_law_649 rfl (lv_at hl 0 rfl) ?_
  refine lv_iload hx hb dL_law_650 (lv_at hl 4 rfl) ?_
  refine lv_iconst (v := 2) hx hb dL_law_652 (by decide) ?_
  refine lv_iadd hx hb dL_law_653 ?_
  refine va_sld hx hb hX hbl hbA hC.2 hin2 dL_law_654 ?_
  refine backIf XC hC (F := fun H => va_P D clsL (wl (rca ca) adR mR) H ∧ va_P D clsL (oC ca q o) H) (fun H1 hk1 => ⟨wl_kF hR hJ.1 hk1, oC_kF hO hJ.2.1 hk1⟩) (runVt XC hC (ctX11_sit (xs (nI k + (1 : Int32)).toNatClampNeg) (xs (nI k + (2 : Int32)).toNatClampNeg) (HNc_c ca) mC (r, mC2) h1 _) mdL_71 (la_0 (HNc_c ca)) rfl ⟨rfl, rfl⟩ ⟨Nat.le_of_ble_eq_true rfl, Nat.le_of_ble_eq_true rfl⟩ rfl hl.1 rfl (Nat.le_of_ble_eq_true rfl) dL_law_655 hf) (fun H locs hC hF => ?_)
  obtain ⟨hR, hO⟩ := hF
  refine lv_aload_n hx hb dL_law_658 rfl (lv_at hl 2 rfl) ?_
  refine lv_aload_n hx hb dL_law_659 rfl (lv_at hl 0 rfl) ?_
  refine lv_iload hx hb dL_law_660 (lv_at hl 4 rfl) ?_
  refine lv_iconst (v := 1) hx hb dL_law_662 (by decide) ?_
  refine lv_iadd hx hb dL_law_663 ?_
  refine va_sld hx hb hX hbl hbA hC.2 hin1 dL_law_664 ?_
  refine lv_aload_n hx hb dL_law_665 rfl (lv_at hl 0 rfl) ?_
  refine lv_iload hx hb dL_law_666 (lv_at hl 4 rfl) ?_
  refine lv_iconst (v := 2) hx hb dL_law_668 (by decide) ?_
  refine lv_iadd hx hb dL_law_669 ?_
  refine va_sld hx hb hX hbl hbA hC.2 hin2 dL_law_670 ?_
  have hRI : IW D (rca ca) adR (fun z : Nat => s.heap.size ≤ z) s mR H locs := ⟨hR, hC.2⟩
  refine backIf XR hRI (F := fun H => va_P D clsL (wl (cca ca) adC mC2) H ∧ va_P D clsL (oC ca q o) H) (fun H1 hk1 => ⟨wl_kF hC.1 (fun i j hi hj e => hJ.1 j i hj hi e.symm) hk1, oC_kF hO hJ.2.2 hk1⟩) (runVt XR hRI (ctX12_sit N (xs (nI k + (1 : Int32)).toNatClampNeg) (xs (nI k + (2 : Int32)).toNatClampNeg) (HNr_r ca) mR (r, mR2) h2 _) mdL_75 (la_99 (HNr_r ca)) rfl ⟨rfl, rfl⟩ ⟨Nat.le_of_ble_eq_true rfl, Nat.le_of_ble_eq_true rfl⟩ rfl hl.1 rfl (Nat.le_of_ble_eq_true rfl) dL_law_671 hf) (fun H locs hRI hF => ?_)
  obtain ⟨hC, hO⟩ := hF
  refine lv_icmp_eq (tgt := 1538) hx hb dL_law_674 (by decide) (fun _ => ?_) (fun cq => absurd rfl cq)
  refine W.widen (k := 144 + k + 1) (n := 5739 + k + 6) (by omega) (by omega) ?_
  exact kk mC2 mR2 o H locs ls hInv ⟨hC, hRI.2⟩ hRI.1 hO hl
set_option maxHeartbeats 4000000 in
set_option maxRecDepth 100000 in
theorem law11 {p : Program} {l : Launch} {e : Env} {s : State} {mm : MethodId} {below : List Frame} {meth : Method} {c : Code} {D : va_G} {ca : Nat → ClassId} {adC adR : Nat → Nat} {b L q k : Nat} {xs : Nat → Int32} (hL : L ≤ 3072) (hk : k + 6 ≤ L) (XC : CX p s mm #[Value.ref b] meth c code 7 RL D (cca ca) adC (fun z : Nat => s.heap.size ≤ z)) (XR : CX p s mm #[Value.ref b] meth c code 7 RL D (rca ca) adR (fun z : Nat => s.heap.size ≤ z)) (hX : va_X b L xs s s.heap) (hbl : b < s.heap.size) (hJ : DJ ca adC adR q) {Inv : Mem → Mem → Prop} {N : Nat} (hop : OP11 Inv N) (kk : ∀ (mC mR : Mem) (o : Nat → Int64) (H : Heap) (locs : List Loc) (ls : Array Slot), Inv mC mR → IW D (cca ca) adC (fun z : Nat => s.heap.size ≤ z) s mC H locs → va_P D clsL (wl (rca ca) adR mR) H → va_P D clsL (oC ca q o) H → lv_has ls 7 [(0, .ref b), (1, .ref (adC 0)), (2, .ref (adR 99)), (3, .ref q), (4, .int (nI k))] → W p l e room_1 s mm #[Value.ref b] below meth c H locs (144 + k + 1) (5739 + k + 6) (lw_Z below #[Value.ref b] s) (F0 mm 1538 ls [])) (mC mR : Mem) (o : Nat → Int64) (H : Heap) (locs : List Loc) (ls : Array Slot) (hC : IW D (cca ca) adC (fun z : Nat => s.heap.size ≤ z) s mC H locs) (hR : va_P D clsL (wl (rca ca) adR mR) H) (hO : va_P D clsL (oC ca q o) H) (hl : lv_has ls 7 [(0, .ref b), (1, .ref (adC 0)), (2, .ref (adR 99)), (3, .ref q), (4, .int (nI k))]) (hInv : Inv mC mR) : W p l e room_1 s mm #[Value.ref b] below meth c H locs (144 + k) (5739 + k) (lw_Z below #[Value.ref b] s) (F0 mm 679 ls []) := by
  have hx := XC.1
  have hb := XC.2.1
  have hbA : ¬ (fun z : Nat => s.heap.size ≤ z) b := Nat.not_le.mpr hbl
  have hf : (144 + k) + 0 ≤ room_1.cells ∧ (5739 + k) + 0 ≤ room_1.slots := ⟨(show 144 + k + 0 ≤ 601024 by omega), (show 5739 + k + 0 ≤ 7293034 by omega)⟩
  have hin1 : vp_in (nI k + (1 : Int32)) L := by
    rw [show (1 : Int32) = nI 1 from rfl, nI_add]
    exact vp_in_nI (by omega) (by omega)
  obtain ⟨r, mC2, mR2, h1, h2, hInv⟩ := hop mC mR (xs (nI k + (1 : Int32)).toNatClampNeg) hInv
  refine lv_aload_n hx hb dL_law_679 rfl (lv_at hl 1 rfl) ?_
  refine lv_aload_n hx hb dL_law_680 rfl (lv_at hl 0 rfl) ?_
  refine lv_iload hx hb dL_law_681 (lv_at hl 4 rfl) ?_
  refine lv_iconst (v := 1) hx hb dL_law_683 (by decide) ?_
  refine lv_iadd hx hb dL_law_684 ?_
  refine va_sld hx hb hX hbl hbA hC.2 hin1 dL_law_685 ?_
  refine backIf XC hC (F := fun H => va_P D clsL (wl (rca ca) adR mR) H ∧ va_P D clsL (oC ca q o) H) (fun H1 hk1 => ⟨wl_kF hR hJ.1 hk1, oC_kF hO hJ.2.1 hk1⟩) (runVt XC hC (ctX11_rise (xs (nI k + (1 : Int32)).toNatClampNeg) (HNc_c ca) mC (r, mC2) h1 _) mdL_76 (la_0 (HNc_c ca)) rfl ⟨rfl, rfl⟩ ⟨Nat.le_of_ble_eq_true rfl, Nat.le_of_ble_eq_true rfl⟩ rfl hl.1 rfl (Nat.le_of_ble_eq_true rfl) dL_law_686 hf) (fun H locs hC hF => ?_)
  obtain ⟨hR, hO⟩ := hF
  refine lv_aload_n hx hb dL_law_689 rfl (lv_at hl 2 rfl) ?_
  refine lv_aload_n hx hb dL_law_690 rfl (lv_at hl 0 rfl) ?_
  refine lv_iload hx hb dL_law_691 (lv_at hl 4 rfl) ?_
  refine lv_iconst (v := 1) hx hb dL_law_693 (by decide) ?_
  refine lv_iadd hx hb dL_law_694 ?_
  refine va_sld hx hb hX hbl hbA hC.2 hin1 dL_law_695 ?_
  have hRI : IW D (rca ca) adR (fun z : Nat => s.heap.size ≤ z) s mR H locs := ⟨hR, hC.2⟩
  refine backIf XR hRI (F := fun H => va_P D clsL (wl (cca ca) adC mC2) H ∧ va_P D clsL (oC ca q o) H) (fun H1 hk1 => ⟨wl_kF hC.1 (fun i j hi hj e => hJ.1 j i hj hi e.symm) hk1, oC_kF hO hJ.2.2 hk1⟩) (runVt XR hRI (ctX12_rise N (xs (nI k + (1 : Int32)).toNatClampNeg) (HNr_r ca) mR (r, mR2) h2 _) mdL_80 (la_99 (HNr_r ca)) rfl ⟨rfl, rfl⟩ ⟨Nat.le_of_ble_eq_true rfl, Nat.le_of_ble_eq_true rfl⟩ rfl hl.1 rfl (Nat.le_of_ble_eq_true rfl) dL_law_696 hf) (fun H locs hRI hF => ?_)
  obtain ⟨hC, hO⟩ := hF
  refine lv_icmp_eq (tgt := 1538) hx hb dL_law_699 (by decide) (fun _ => ?_) (fun cq => absurd rfl cq)
  refine W.widen (k := 144 + k + 1) (n := 5739 + k + 6) (by omega) (by omega) ?_
  exact kk mC2 mR2 o H locs ls hInv ⟨hC, hRI.2⟩ hRI.1 hO hl
set_option maxHeartbeats 4000000 in
set_option maxRecDepth 100000 in
theorem law12 {p : Program} {l : Launch} {e : Env} {s : State} {mm : MethodId} {below : List Frame} {meth : Method} {c : Code} {D : va_G} {ca : Nat → ClassId} {adC adR : Nat → Nat} {b L q k : Nat} {xs : Nat → Int32} (hL : L ≤ 3072) (hk : k + 6 ≤ L) (XC : CX p s mm #[Value.ref b] meth c code 7 RL D (cca ca) adC (fun z : Nat => s.heap.size ≤ z)) (XR : CX p s mm #[Value.ref b] meth c code 7 RL D (rca ca) adR (fun z : Nat => s.heap.size ≤ z)) (hX : va_X b L xs s s.heap) (hbl : b < s.heap.size) (hJ : DJ ca adC adR q) {Inv : Mem → Mem → Prop} {N : Nat} (hop : OP12 Inv N) (kk : ∀ (mC mR : Mem) (o : Nat → Int64) (H : Heap) (locs : List Loc) (ls : Array Slot), Inv mC mR → IW D (cca ca) adC (fun z : Nat => s.heap.size ≤ z) s mC H locs → va_P D clsL (wl (rca ca) adR mR) H → va_P D clsL (oC ca q o) H → lv_has ls 7 [(0, .ref b), (1, .ref (adC 0)), (2, .ref (adR 99)), (3, .ref q), (4, .int (nI k))] → W p l e room_1 s mm #[Value.ref b] below meth c H locs (144 + k + 1) (5739 + k + 6) (lw_Z below #[Value.ref b] s) (F0 mm 1538 ls [])) (mC mR : Mem) (o : Nat → Int64) (H : Heap) (locs : List Loc) (ls : Array Slot) (hC : IW D (cca ca) adC (fun z : Nat => s.heap.size ≤ z) s mC H locs) (hR : va_P D clsL (wl (rca ca) adR mR) H) (hO : va_P D clsL (oC ca q o) H) (hl : lv_has ls 7 [(0, .ref b), (1, .ref (adC 0)), (2, .ref (adR 99)), (3, .ref q), (4, .int (nI k))]) (hInv : Inv mC mR) : W p l e room_1 s mm #[Value.ref b] below meth c H locs (144 + k) (5739 + k) (lw_Z below #[Value.ref b] s) (F0 mm 704 ls []) := by
  have hx := XC.1
  have hb := XC.2.1
  have hbA : ¬ (fun z : Nat => s.heap.size ≤ z) b := Nat.not_le.mpr hbl
  have hf : (144 + k) + 0 ≤ room_1.cells ∧ (5739 + k) + 0 ≤ room_1.slots := ⟨(show 144 + k + 0 ≤ 601024 by omega), (show 5739 + k + 0 ≤ 7293034 by omega)⟩
  have hin1 : vp_in (nI k + (1 : Int32)) L := by
    rw [show (1 : Int32) = nI 1 from rfl, nI_add]
    exact vp_in_nI (by omega) (by omega)
  obtain ⟨r, mC2, mR2, h1, h2, hInv⟩ := hop mC mR (xs (nI k + (1 : Int32)).toNatClampNeg) hInv
  refine lv_aload_n hx hb dL_law_704 rfl (lv_at hl 1 rfl) ?_
  refine lv_aload_n hx hb dL_law_705 rfl (lv_at hl 0 rfl) ?_
  refine lv_iload hx hb dL_law_706 (lv_at hl 4 rfl) ?_
  refine lv_iconst (v := 1) hx hb dL_law_708 (by decide) ?_
  refine lv_iadd hx hb dL_law_709 ?_
  refine va_sld hx hb hX hbl hbA hC.2 hin1 dL_law_710 ?_
  refine backIf XC hC (F := fun H => va_P D clsL (wl (rca ca) adR mR) H ∧ va_P D clsL (oC ca q o) H) (fun H1 hk1 => ⟨wl_kF hR hJ.1 hk1, oC_kF hO hJ.2.1 hk1⟩) (runVt XC hC (ctX11_go N (xs (nI k + (1 : Int32)).toNatClampNeg) (HNc_c ca) mC (r, mC2) h1 _) mdL_81 (la_0 (HNc_c ca)) rfl ⟨rfl, rfl⟩ ⟨Nat.le_of_ble_eq_true rfl, Nat.le_of_ble_eq_true rfl⟩ rfl hl.1 rfl (Nat.le_of_ble_eq_true rfl) dL_law_711 hf) (fun H locs hC hF => ?_)
  obtain ⟨hR, hO⟩ := hF
  refine lv_aload_n hx hb dL_law_714 rfl (lv_at hl 2 rfl) ?_
  refine lv_aload_n hx hb dL_law_715 rfl (lv_at hl 0 rfl) ?_
  refine lv_iload hx hb dL_law_716 (lv_at hl 4 rfl) ?_
  refine lv_iconst (v := 1) hx hb dL_law_718 (by decide) ?_
  refine lv_iadd hx hb dL_law_719 ?_
  refine va_sld hx hb hX hbl hbA hC.2 hin1 dL_law_720 ?_
  have hRI : IW D (rca ca) adR (fun z : Nat => s.heap.size ≤ z) s mR H locs := ⟨hR, hC.2⟩
  refine backIf XR hRI (F := fun H => va_P D clsL (wl (cca ca) adC mC2) H ∧ va_P D clsL (oC ca q o) H) (fun H1 hk1 => ⟨wl_kF hC.1 (fun i j hi hj e => hJ.1 j i hj hi e.symm) hk1, oC_kF hO hJ.2.2 hk1⟩) (runVt XR hRI (ctX12_go N (xs (nI k + (1 : Int32)).toNatClampNeg) (HNr_r ca) mR (r, mR2) h2 _) mdL_84 (la_99 (HNr_r ca)) rfl ⟨rfl, rfl⟩ ⟨Nat.le_of_ble_eq_true rfl, Nat.le_of_ble_eq_true rfl⟩ rfl hl.1 rfl (Nat.le_of_ble_eq_true rfl) dL_law_721 hf) (fun H locs hRI hF => ?_)
  obtain ⟨hC, hO⟩ := hF
  refine lv_icmp_eq (tgt := 1538) hx hb dL_law_724 (by decide) (fun _ => ?_) (fun cq => absurd rfl cq)
  refine W.widen (k := 144 + k + 1) (n := 5739 + k + 6) (by omega) (by omega) ?_
  exact kk mC2 mR2 o H locs ls hInv ⟨hC, hRI.2⟩ hRI.1 hO hl
set_option maxHeartbeats 4000000 in
set_option maxRecDepth 100000 in
theorem law13 {p : Program} {l : Launch} {e : Env} {s : State} {mm : MethodId} {below : List Frame} {meth : Method} {c : Code} {D : va_G} {ca : Nat → ClassId} {adC adR : Nat → Nat} {b L q k : Nat} {xs : Nat → Int32} (hL : L ≤ 3072) (hk : k + 6 ≤ L) (XC : CX p s mm #[Value.ref b] meth c code 7 RL D (cca ca) adC (fun z : Nat => s.heap.size ≤ z)) (XR : CX p s mm #[Value.ref b] meth c code 7 RL D (rca ca) adR (fun z : Nat => s.heap.size ≤ z)) (hX : va_X b L xs s s.heap) (hbl : b < s.heap.size) (hJ : DJ ca adC adR q) {Inv : Mem → Mem → Prop} {N : Nat} (hop : OP13 Inv N) (kk : ∀ (mC mR : Mem) (o : Nat → Int64) (H : Heap) (locs : List Loc) (ls : Array Slot), Inv mC mR → IW D (cca ca) adC (fun z : Nat => s.heap.size ≤ z) s mC H locs → va_P D clsL (wl (rca ca) adR mR) H → va_P D clsL (oC ca q o) H → lv_has ls 7 [(0, .ref b), (1, .ref (adC 0)), (2, .ref (adR 99)), (3, .ref q), (4, .int (nI k))] → W p l e room_1 s mm #[Value.ref b] below meth c H locs (144 + k + 1) (5739 + k + 6) (lw_Z below #[Value.ref b] s) (F0 mm 1538 ls [])) (mC mR : Mem) (o : Nat → Int64) (H : Heap) (locs : List Loc) (ls : Array Slot) (hC : IW D (cca ca) adC (fun z : Nat => s.heap.size ≤ z) s mC H locs) (hR : va_P D clsL (wl (rca ca) adR mR) H) (hO : va_P D clsL (oC ca q o) H) (hl : lv_has ls 7 [(0, .ref b), (1, .ref (adC 0)), (2, .ref (adR 99)), (3, .ref q), (4, .int (nI k))]) (hInv : Inv mC mR) : W p l e room_1 s mm #[Value.ref b] below meth c H locs (144 + k) (5739 + k) (lw_Z below #[Value.ref b] s) (F0 mm 729 ls []) := by
  have hx := XC.1
  have hb := XC.2.1
  have hbA : ¬ (fun z : Nat => s.heap.size ≤ z) b := Nat.not_le.mpr hbl
  have hf : (144 + k) + 0 ≤ room_1.cells ∧ (5739 + k) + 0 ≤ room_1.slots := ⟨(show 144 + k + 0 ≤ 601024 by omega), (show 5739 + k + 0 ≤ 7293034 by omega)⟩
  have hin1 : vp_in (nI k + (1 : Int32)) L := by
    rw [show (1 : Int32) = nI 1 from rfl, nI_add]
    exact vp_in_nI (by omega) (by omega)
  have hin2 : vp_in (nI k + (2 : Int32)) L := by
    rw [show (2 : Int32) = nI 2 from rfl, nI_add]
    exact vp_in_nI (by omega) (by omega)
  have hin3 : vp_in (nI k + (3 : Int32)) L := by
    rw [show (3 : Int32) = nI 3 from rfl, nI_add]
    exact vp_in_nI (by omega) (by omega)
  obtain ⟨r, mC2, mR2, h1, h2, hInv⟩ := hop mC mR (xs (nI k + (1 : Int32)).toNatClampNeg) (xs (nI k + (2 : Int32)).toNatClampNeg) (xs (nI k + (3 : Int32)).toNatClampNeg) hInv
  refine lv_aload_n hx hb dL_law_729 rfl (lv_at hl 1 rfl) ?_
  refine lv_aload_n hx hb dL_law_730 rfl (lv_at hl 0 rfl) ?_
  refine lv_iload hx hb dL_law_731 (lv_at hl 4 rfl) ?_
  refine lv_iconst (v := 1) hx hb dL_law_733 (by decide) ?_
  refine lv_iadd hx hb dL_law_734 ?_
  refine va_sld hx hb hX hbl hbA hC.2 hin1 dL_law_735 ?_
  refine lv_aload_n hx hb dL_law_736 rfl (lv_at hl 0 rfl) ?_
  refine lv_iload hx hb dL_law_737 (lv_at hl 4 rfl) ?_
  refine lv_iconst (v := 2) hx hb dL_law_739 (by decide) ?_
  refine lv_iadd hx hb dL_law_740 ?_
  refine va_sld hx hb hX hbl hbA hC.2 hin2 dL_law_741 ?_
  refine lv_aload_n hx hb dL_law_742 rfl (lv_at hl 0 rfl) ?_
  refine lv_iload hx hb dL_law_743 (lv_at hl 4 rfl) ?_
  refine lv_iconst (v := 3) hx hb dL_law_745 (by decide) ?_
  refine lv_iadd hx hb dL_law_746 ?_
  refine va_sld hx hb hX hbl hbA hC.2 hin3 dL_law_747 ?_
  refine backIf XC hC (F := fun H => va_P D clsL (wl (rca ca) adR mR) H ∧ va_P D clsL (oC ca q o) H) (fun H1 hk1 => ⟨wl_kF hR hJ.1 hk1, oC_kF hO hJ.2.1 hk1⟩) (runVt XC hC (ctX11_ahead N (xs (nI k + (1 : Int32)).toNatClampNeg) (xs (nI k + (2 : Int32)).toNatClampNeg) (xs (nI k + (3 : Int32)).toNatClampNeg) (HNc_c ca) mC (r, mC2) h1 _) mdL_85 (la_0 (HNc_c ca)) rfl ⟨rfl, rfl⟩ ⟨Nat.le_of_ble_eq_true rfl, Nat.le_of_ble_eq_true rfl⟩ rfl hl.1 rfl (Nat.le_of_ble_eq_true rfl) dL_law_748 hf) (fun H locs hC hF => ?_)
  obtain ⟨hR, hO⟩ := hF
  refine lv_aload_n hx hb dL_law_751 rfl (lv_at hl 2 rfl) ?_
  refine lv_aload_n hx hb dL_law_752 rfl (lv_at hl 0 rfl) ?_
  refine lv_iload hx hb dL_law_753 (lv_at hl 4 rfl) ?_
  refine lv_iconst (v := 1) hx hb dL_law_755 (by decide) ?_
  refine lv_iadd hx hb dL_law_756 ?_
  refine va_sld hx hb hX hbl hbA hC.2 hin1 dL_law_757 ?_
  refine lv_aload_n hx hb dL_law_758 rfl (lv_at hl 0 rfl) ?_
  refine lv_iload hx hb dL_law_759 (lv_at hl 4 rfl) ?_
  refine lv_iconst (v := 2) hx hb dL_law_761 (by decide) ?_
  refine lv_iadd hx hb dL_law_762 ?_
  refine va_sld hx hb hX hbl hbA hC.2 hin2 dL_law_763 ?_
  refine lv_aload_n hx hb dL_law_764 rfl (lv_at hl 0 rfl) ?_
  refine lv_iload hx hb dL_law_765 (lv_at hl 4 rfl) ?_
  refine lv_iconst (v := 3) hx hb dL_law_767 (by decide) ?_
  refine lv_iadd hx hb dL_law_768 ?_
  refine va_sld hx hb hX hbl hbA hC.2 hin3 dL_law_769 ?_
  have hRI : IW D (rca ca) adR (fun z : Nat => s.heap.size ≤ z) s mR H locs := ⟨hR, hC.2⟩
  refine backIf XR hRI (F := fun H => va_P D clsL (wl (cca ca) adC mC2) H ∧ va_P D clsL (oC ca q o) H) (fun H1 hk1 => ⟨wl_kF hC.1 (fun i j hi hj e => hJ.1 j i hj hi e.symm) hk1, oC_kF hO hJ.2.2 hk1⟩) (runVt XR hRI (ctX12_ahead N (xs (nI k + (1 : Int32)).toNatClampNeg) (xs (nI k + (2 : Int32)).toNatClampNeg) (xs (nI k + (3 : Int32)).toNatClampNeg) (HNr_r ca) mR (r, mR2) h2 _) mdL_88 (la_99 (HNr_r ca)) rfl ⟨rfl, rfl⟩ ⟨Nat.le_of_ble_eq_true rfl, Nat.le_of_ble_eq_true rfl⟩ rfl hl.1 rfl (Nat.le_of_ble_eq_true rfl) dL_law_770 hf) (fun H locs hRI hF => ?_)
  obtain ⟨hC, hO⟩ := hF
  refine lv_icmp_eq (tgt := 1538) hx hb dL_law_773 (by decide) (fun _ => ?_) (fun cq => absurd rfl cq)
  refine W.widen (k := 144 + k + 1) (n := 5739 + k + 6) (by omega) (by omega) ?_
  exact kk mC2 mR2 o H locs ls hInv ⟨hC, hRI.2⟩ hRI.1 hO hl
set_option maxHeartbeats 4000000 in
set_option maxRecDepth 100000 in
theorem law14 {p : Program} {l : Launch} {e : Env} {s : State} {mm : MethodId} {below : List Frame} {meth : Method} {c : Code} {D : va_G} {ca : Nat → ClassId} {adC adR : Nat → Nat} {b L q k : Nat} {xs : Nat → Int32} (hL : L ≤ 3072) (hk : k + 6 ≤ L) (XC : CX p s mm #[Value.ref b] meth c code 7 RL D (cca ca) adC (fun z : Nat => s.heap.size ≤ z)) (XR : CX p s mm #[Value.ref b] meth c code 7 RL D (rca ca) adR (fun z : Nat => s.heap.size ≤ z)) (hX : va_X b L xs s s.heap) (hbl : b < s.heap.size) (hJ : DJ ca adC adR q) {Inv : Mem → Mem → Prop} {N : Nat} (hop : OP14 Inv N) (kk : ∀ (mC mR : Mem) (o : Nat → Int64) (H : Heap) (locs : List Loc) (ls : Array Slot), Inv mC mR → IW D (cca ca) adC (fun z : Nat => s.heap.size ≤ z) s mC H locs → va_P D clsL (wl (rca ca) adR mR) H → va_P D clsL (oC ca q o) H → lv_has ls 7 [(0, .ref b), (1, .ref (adC 0)), (2, .ref (adR 99)), (3, .ref q), (4, .int (nI k))] → W p l e room_1 s mm #[Value.ref b] below meth c H locs (144 + k + 1) (5739 + k + 6) (lw_Z below #[Value.ref b] s) (F0 mm 1538 ls [])) (mC mR : Mem) (o : Nat → Int64) (H : Heap) (locs : List Loc) (ls : Array Slot) (hC : IW D (cca ca) adC (fun z : Nat => s.heap.size ≤ z) s mC H locs) (hR : va_P D clsL (wl (rca ca) adR mR) H) (hO : va_P D clsL (oC ca q o) H) (hl : lv_has ls 7 [(0, .ref b), (1, .ref (adC 0)), (2, .ref (adR 99)), (3, .ref q), (4, .int (nI k))]) (hInv : Inv mC mR) : W p l e room_1 s mm #[Value.ref b] below meth c H locs (144 + k) (5739 + k) (lw_Z below #[Value.ref b] s) (F0 mm 778 ls []) := by
  have hx := XC.1
  have hb := XC.2.1
  have hbA : ¬ (fun z : Nat => s.heap.size ≤ z) b := Nat.not_le.mpr hbl
  have hf : (144 + k) + 0 ≤ room_1.cells ∧ (5739 + k) + 0 ≤ room_1.slots := ⟨(show 144 + k + 0 ≤ 601024 by omega), (show 5739 + k + 0 ≤ 7293034 by omega)⟩
  have hin1 : vp_in (nI k + (1 : Int32)) L := by
    rw [show (1 : Int32) = nI 1 from rfl, nI_add]
    exact vp_in_nI (by omega) (by omega)
  have hin2 : vp_in (nI k + (2 : Int32)) L := by
    rw [show (2 : Int32) = nI 2 from rfl, nI_add]
    exact vp_in_nI (by omega) (by omega)
  obtain ⟨r, mC2, mR2, h1, h2, hInv⟩ := hop mC mR (xs (nI k + (1 : Int32)).toNatClampNeg) (xs (nI k + (2 : Int32)).toNatClampNeg) hInv
  refine lv_aload_n hx hb dL_law_778 rfl (lv_at hl 1 rfl) ?_
  refine lv_aload_n hx hb dL_law_779 rfl (lv_at hl 0 rfl) ?_
  refine lv_iload hx hb dL_law_780 (lv_at hl 4 rfl) ?_
  refine lv_iconst (v := 1) hx hb dL_law_782 (by decide) ?_
  refine lv_iadd hx hb dL_law_783 ?_
  refine va_sld hx hb hX hbl hbA hC.2 hin1 dL_law_784 ?_
  refine lv_aload_n hx hb dL_law_785 rfl (lv_at hl 0 rfl) ?_
  refine lv_iload hx hb dL_law_786 (lv_at hl 4 rfl) ?_
  refine lv_iconst (v := 2) hx hb dL_law_788 (by decide) ?_
  refine lv_iadd hx hb dL_law_789 ?_
  refine va_sld hx hb hX hbl hbA hC.2 hin2 dL_law_790 ?_
  refine backIf XC hC (F := fun H => va_P D clsL (wl (rca ca) adR mR) H ∧ va_P D clsL (oC ca q o) H) (fun H1 hk1 => ⟨wl_kF hR hJ.1 hk1, oC_kF hO hJ.2.1 hk1⟩) (runVt XC hC (ctX11_cools N (xs (nI k + (1 : Int32)).toNatClampNeg) (xs (nI k + (2 : Int32)).toNatClampNeg) (HNc_c ca) mC (r, mC2) h1 _) mdL_89 (la_0 (HNc_c ca)) rfl ⟨rfl, rfl⟩ ⟨Nat.le_of_ble_eq_true rfl, Nat.le_of_ble_eq_true rfl⟩ rfl hl.1 rfl (Nat.le_of_ble_eq_true rfl) dL_law_791 hf) (fun H locs hC hF => ?_)
  obtain ⟨hR, hO⟩ := hF
  refine lv_aload_n hx hb dL_law_794 rfl (lv_at hl 2 rfl) ?_
  refine lv_aload_n hx hb dL_law_795 rfl (lv_at hl 0 rfl) ?_
  refine lv_iload hx hb dL_law_796 (lv_at hl 4 rfl) ?_
  refine lv_iconst (v := 1) hx hb dL_law_798 (by decide) ?_
  refine lv_iadd hx hb dL_law_799 ?_
  refine va_sld hx hb hX hbl hbA hC.2 hin1 dL_law_800 ?_
  refine lv_aload_n hx hb dL_law_801 rfl (lv_at hl 0 rfl) ?_
  refine lv_iload hx hb dL_law_802 (lv_at hl 4 rfl) ?_
  refine lv_iconst (v := 2) hx hb dL_law_804 (by decide) ?_
  refine lv_iadd hx hb dL_law_805 ?_
  refine va_sld hx hb hX hbl hbA hC.2 hin2 dL_law_806 ?_
  have hRI : IW D (rca ca) adR (fun z : Nat => s.heap.size ≤ z) s mR H locs := ⟨hR, hC.2⟩
  refine backIf XR hRI (F := fun H => va_P D clsL (wl (cca ca) adC mC2) H ∧ va_P D clsL (oC ca q o) H) (fun H1 hk1 => ⟨wl_kF hC.1 (fun i j hi hj e => hJ.1 j i hj hi e.symm) hk1, oC_kF hO hJ.2.2 hk1⟩) (runVt XR hRI (ctX12_cools N (xs (nI k + (1 : Int32)).toNatClampNeg) (xs (nI k + (2 : Int32)).toNatClampNeg) (HNr_r ca) mR (r, mR2) h2 _) mdL_92 (la_99 (HNr_r ca)) rfl ⟨rfl, rfl⟩ ⟨Nat.le_of_ble_eq_true rfl, Nat.le_of_ble_eq_true rfl⟩ rfl hl.1 rfl (Nat.le_of_ble_eq_true rfl) dL_law_807 hf) (fun H locs hRI hF => ?_)
  obtain ⟨hC, hO⟩ := hF
  refine lv_icmp_eq (tgt := 1538) hx hb dL_law_810 (by decide) (fun _ => ?_) (fun cq => absurd rfl cq)
  refine W.widen (k := 144 + k + 1) (n := 5739 + k + 6) (by omega) (by omega) ?_
  exact kk mC2 mR2 o H locs ls hInv ⟨hC, hRI.2⟩ hRI.1 hO hl
set_option maxHeartbeats 4000000 in
set_option maxRecDepth 100000 in
theorem law15 {p : Program} {l : Launch} {e : Env} {s : State} {mm : MethodId} {below : List Frame} {meth : Method} {c : Code} {D : va_G} {ca : Nat → ClassId} {adC adR : Nat → Nat} {b L q k : Nat} {xs : Nat → Int32} (hL : L ≤ 3072) (hk : k + 6 ≤ L) (XC : CX p s mm #[Value.ref b] meth c code 7 RL D (cca ca) adC (fun z : Nat => s.heap.size ≤ z)) (XR : CX p s mm #[Value.ref b] meth c code 7 RL D (rca ca) adR (fun z : Nat => s.heap.size ≤ z)) (hX : va_X b L xs s s.heap) (hbl : b < s.heap.size) (hJ : DJ ca adC adR q) {Inv : Mem → Mem → Prop} {N : Nat} (hop : OP15 Inv N) (kk : ∀ (mC mR : Mem) (o : Nat → Int64) (H : Heap) (locs : List Loc) (ls : Array Slot), Inv mC mR → IW D (cca ca) adC (fun z : Nat => s.heap.size ≤ z) s mC H locs → va_P D clsL (wl (rca ca) adR mR) H → va_P D clsL (oC ca q o) H → lv_has ls 7 [(0, .ref b), (1, .ref (adC 0)), (2, .ref (adR 99)), (3, .ref q), (4, .int (nI k))] → W p l e room_1 s mm #[Value.ref b] below meth c H locs (144 + k + 1) (5739 + k + 6) (lw_Z below #[Value.ref b] s) (F0 mm 1538 ls [])) (mC mR : Mem) (o : Nat → Int64) (H : Heap) (locs : List Loc) (ls : Array Slot) (hC : IW D (cca ca) adC (fun z : Nat => s.heap.size ≤ z) s mC H locs) (hR : va_P D clsL (wl (rca ca) adR mR) H) (hO : va_P D clsL (oC ca q o) H) (hl : lv_has ls 7 [(0, .ref b), (1, .ref (adC 0)), (2, .ref (adR 99)), (3, .ref q), (4, .int (nI k))]) (hInv : Inv mC mR) : W p l e room_1 s mm #[Value.ref b] below meth c H locs (144 + k) (5739 + k) (lw_Z below #[Value.ref b] s) (F0 mm 815 ls []) := by
  have hx := XC.1
  have hb := XC.2.1
  have hbA : ¬ (fun z : Nat => s.heap.size ≤ z) b := Nat.not_le.mpr hbl
  have hf : (144 + k) + 0 ≤ room_1.cells ∧ (5739 + k) + 0 ≤ room_1.slots := ⟨(show 144 + k + 0 ≤ 601024 by omega), (show 5739 + k + 0 ≤ 7293034 by omega)⟩
  have hin1 : vp_in (nI k + (1 : Int32)) L := by
    rw [show (1 : Int32) = nI 1 from rfl, nI_add]
    exact vp_in_nI (by omega) (by omega)
  obtain ⟨r, mC2, mR2, h1, h2, hInv⟩ := hop mC mR (xs (nI k + (1 : Int32)).toNatClampNeg) hInv
  refine lv_aload_n hx hb dL_law_815 rfl (lv_at hl 1 rfl) ?_
  refine lv_aload_n hx hb dL_law_816 rfl (lv_at hl 0 rfl) ?_
  refine lv_iload hx hb dL_law_817 (lv_at hl 4 rfl) ?_
  refine lv_iconst (v := 1) hx hb dL_law_819 (by decide) ?_
  refine lv_iadd hx hb dL_law_820 ?_
  refine va_sld hx hb hX hbl hbA hC.2 hin1 dL_law_821 ?_
  refine backIf XC hC (F := fun H => va_P D clsL (wl (rca ca) adR mR) H ∧ va_P D clsL (oC ca q o) H) (fun H1 hk1 => ⟨wl_kF hR hJ.1 hk1, oC_kF hO hJ.2.1 hk1⟩) (runVt XC hC (ctX11_flinches N (xs (nI k + (1 : Int32)).toNatClampNeg) (HNc_c ca) mC (r, mC2) h1 _) mdL_93 (la_0 (HNc_c ca)) rfl ⟨rfl, rfl⟩ ⟨Nat.le_of_ble_eq_true rfl, Nat.le_of_ble_eq_true rfl⟩ rfl hl.1 rfl (Nat.le_of_ble_eq_true rfl) dL_law_822 hf) (fun H locs hC hF => ?_)
  obtain ⟨hR, hO⟩ := hF
  refine lv_aload_n hx hb dL_law_825 rfl (lv_at hl 2 rfl) ?_
  refine lv_aload_n hx hb dL_law_826 rfl (lv_at hl 0 rfl) ?_
  refine lv_iload hx hb dL_law_827 (lv_at hl 4 rfl) ?_
  refine lv_iconst (v := 1) hx hb dL_law_829 (by decide) ?_
  refine lv_iadd hx hb dL_law_830 ?_
  refine va_sld hx hb hX hbl hbA hC.2 hin1 dL_law_831 ?_
  have hRI : IW D (rca ca) adR (fun z : Nat => s.heap.size ≤ z) s mR H locs := ⟨hR, hC.2⟩
  refine backIf XR hRI (F := fun H => va_P D clsL (wl (cca ca) adC mC2) H ∧ va_P D clsL (oC ca q o) H) (fun H1 hk1 => ⟨wl_kF hC.1 (fun i j hi hj e => hJ.1 j i hj hi e.symm) hk1, oC_kF hO hJ.2.2 hk1⟩) (runVt XR hRI (ctX12_flinches N (xs (nI k + (1 : Int32)).toNatClampNeg) (HNr_r ca) mR (r, mR2) h2 _) mdL_96 (la_99 (HNr_r ca)) rfl ⟨rfl, rfl⟩ ⟨Nat.le_of_ble_eq_true rfl, Nat.le_of_ble_eq_true rfl⟩ rfl hl.1 rfl (Nat.le_of_ble_eq_true rfl) dL_law_832 hf) (fun H locs hRI hF => ?_)
  obtain ⟨hC, hO⟩ := hF
  refine lv_icmp_eq (tgt := 1538) hx hb dL_law_835 (by decide) (fun _ => ?_) (fun cq => absurd rfl cq)
  refine W.widen (k := 144 + k + 1) (n := 5739 + k + 6) (by omega) (by omega) ?_
  exact kk mC2 mR2 o H locs ls hInv ⟨hC, hRI.2⟩ hRI.1 hO hl
set_option maxHeartbeats 4000000 in
set_option maxRecDepth 100000 in
theorem law16 {p : Program} {l : Launch} {e : Env} {s : State} {mm : MethodId} {below : List Frame} {meth : Method} {c : Code} {D : va_G} {ca : Nat → ClassId} {adC adR : Nat → Nat} {b L q k : Nat} {xs : Nat → Int32} (hL : L ≤ 3072) (hk : k + 6 ≤ L) (XC : CX p s mm #[Value.ref b] meth c code 7 RL D (cca ca) adC (fun z : Nat => s.heap.size ≤ z)) (XR : CX p s mm #[Value.ref b] meth c code 7 RL D (rca ca) adR (fun z : Nat => s.heap.size ≤ z)) (hX : va_X b L xs s s.heap) (hbl : b < s.heap.size) (hJ : DJ ca adC adR q) {Inv : Mem → Mem → Prop} {N : Nat} (hop : OP16 Inv N) (kk : ∀ (mC mR : Mem) (o : Nat → Int64) (H : Heap) (locs : List Loc) (ls : Array Slot), Inv mC mR → IW D (cca ca) adC (fun z : Nat => s.heap.size ≤ z) s mC H locs → va_P D clsL (wl (rca ca) adR mR) H → va_P D clsL (oC ca q o) H → lv_has ls 7 [(0, .ref b), (1, .ref (adC 0)), (2, .ref (adR 99)), (3, .ref q), (4, .int (nI k))] → W p l e room_1 s mm #[Value.ref b] below meth c H locs (144 + k + 1) (5739 + k + 6) (lw_Z below #[Value.ref b] s) (F0 mm 1538 ls [])) (mC mR : Mem) (o : Nat → Int64) (H : Heap) (locs : List Loc) (ls : Array Slot) (hC : IW D (cca ca) adC (fun z : Nat => s.heap.size ≤ z) s mC H locs) (hR : va_P D clsL (wl (rca ca) adR mR) H) (hO : va_P D clsL (oC ca q o) H) (hl : lv_has ls 7 [(0, .ref b), (1, .ref (adC 0)), (2, .ref (adR 99)), (3, .ref q), (4, .int (nI k))]) (hInv : Inv mC mR) : W p l e room_1 s mm #[Value.ref b] below meth c H locs (144 + k) (5739 + k) (lw_Z below #[Value.ref b] s) (F0 mm 840 ls []) := by
  have hx := XC.1
  have hb := XC.2.1
  have hbA : ¬ (fun z : Nat => s.heap.size ≤ z) b := Nat.not_le.mpr hbl
  have hf : (144 + k) + 0 ≤ room_1.cells ∧ (5739 + k) + 0 ≤ room_1.slots := ⟨(show 144 + k + 0 ≤ 601024 by omega), (show 5739 + k + 0 ≤ 7293034 by omega)⟩
  have hin1 : vp_in (nI k + (1 : Int32)) L := by
    rw [show (1 : Int32) = nI 1 from rfl, nI_add]
    exact vp_in_nI (by omega) (by omega)
  obtain ⟨r, mR2, h1, h2, hInv⟩ := hop mC mR (xs (nI k + (1 : Int32)).toNatClampNeg) hInv
  refine lv_aload_n hx hb dL_law_840 rfl (lv_at hl 1 rfl) ?_
  refine lv_aload_n hx hb dL_law_841 rfl (lv_at hl 0 rfl) ?_
  refine lv_iload hx hb dL_law_842 (lv_at hl 4 rfl) ?_
  refine lv_iconst (v := 1) hx hb dL_law_844 (by decide) ?_
  refine lv_iadd hx hb dL_law_845 ?_
  refine va_sld hx hb hX hbl hbA hC.2 hin1 dL_law_846 ?_
  refine backIf XC hC (F := fun H => va_P D clsL (wl (rca ca) adR mR) H ∧ va_P D clsL (oC ca q o) H) (fun H1 hk1 => ⟨wl_kF hR hJ.1 hk1, oC_kF hO hJ.2.1 hk1⟩) (runVt XC hC (ctX11_order N (xs (nI k + (1 : Int32)).toNatClampNeg) (HNc_c ca) mC r h1 _) mdL_97 (la_0 (HNc_c ca)) rfl ⟨rfl, rfl⟩ ⟨Nat.le_of_ble_eq_true rfl, Nat.le_of_ble_eq_true rfl⟩ rfl hl.1 rfl (Nat.le_of_ble_eq_true rfl) dL_law_847 hf) (fun H locs hC hF => ?_)
  obtain ⟨hR, hO⟩ := hF
  refine lv_aload_n hx hb dL_law_850 rfl (lv_at hl 2 rfl) ?_
  refine lv_aload_n hx hb dL_law_851 rfl (lv_at hl 0 rfl) ?_
  refine lv_iload hx hb dL_law_852 (lv_at hl 4 rfl) ?_
  refine lv_iconst (v := 1) hx hb dL_law_854 (by decide) ?_
  refine lv_iadd hx hb dL_law_855 ?_
  refine va_sld hx hb hX hbl hbA hC.2 hin1 dL_law_856 ?_
  have hRI : IW D (rca ca) adR (fun z : Nat => s.heap.size ≤ z) s mR H locs := ⟨hR, hC.2⟩
  refine backIf XR hRI (F := fun H => va_P D clsL (wl (cca ca) adC mC) H ∧ va_P D clsL (oC ca q o) H) (fun H1 hk1 => ⟨wl_kF hC.1 (fun i j hi hj e => hJ.1 j i hj hi e.symm) hk1, oC_kF hO hJ.2.2 hk1⟩) (runVt XR hRI (ctX12_order N (xs (nI k + (1 : Int32)).toNatClampNeg) (HNr_r ca) mR (r, mR2) h2 _) mdL_100 (la_99 (HNr_r ca)) rfl ⟨rfl, rfl⟩ ⟨Nat.le_of_ble_eq_true rfl, Nat.le_of_ble_eq_true rfl⟩ rfl hl.1 rfl (Nat.le_of_ble_eq_true rfl) dL_law_857 hf) (fun H locs hRI hF => ?_)
  obtain ⟨hC, hO⟩ := hF
  refine lv_icmp_eq (tgt := 1538) hx hb dL_law_860 (by decide) (fun _ => ?_) (fun cq => absurd rfl cq)
  refine W.widen (k := 144 + k + 1) (n := 5739 + k + 6) (by omega) (by omega) ?_
  exact kk mC mR2 o H locs ls hInv ⟨hC, hRI.2⟩ hRI.1 hO hl
set_option maxHeartbeats 4000000 in
set_option maxRecDepth 100000 in
theorem law17 {p : Program} {l : Launch} {e : Env} {s : State} {mm : MethodId} {below : List Frame} {meth : Method} {c : Code} {D : va_G} {ca : Nat → ClassId} {adC adR : Nat → Nat} {b L q k : Nat} {xs : Nat → Int32} (hL : L ≤ 3072) (hk : k + 6 ≤ L) (XC : CX p s mm #[Value.ref b] meth c code 7 RL D (cca ca) adC (fun z : Nat => s.heap.size ≤ z)) (XR : CX p s mm #[Value.ref b] meth c code 7 RL D (rca ca) adR (fun z : Nat => s.heap.size ≤ z)) (hX : va_X b L xs s s.heap) (hbl : b < s.heap.size) (hJ : DJ ca adC adR q) {Inv : Mem → Mem → Prop} {N : Nat} (hop : OP17 Inv N) (kk : ∀ (mC mR : Mem) (o : Nat → Int64) (H : Heap) (locs : List Loc) (ls : Array Slot), Inv mC mR → IW D (cca ca) adC (fun z : Nat => s.heap.size ≤ z) s mC H locs → va_P D clsL (wl (rca ca) adR mR) H → va_P D clsL (oC ca q o) H → lv_has ls 7 [(0, .ref b), (1, .ref (adC 0)), (2, .ref (adR 99)), (3, .ref q), (4, .int (nI k))] → W p l e room_1 s mm #[Value.ref b] below meth c H locs (144 + k + 1) (5739 + k + 6) (lw_Z below #[Value.ref b] s) (F0 mm 1538 ls [])) (mC mR : Mem) (o : Nat → Int64) (H : Heap) (locs : List Loc) (ls : Array Slot) (hC : IW D (cca ca) adC (fun z : Nat => s.heap.size ≤ z) s mC H locs) (hR : va_P D clsL (wl (rca ca) adR mR) H) (hO : va_P D clsL (oC ca q o) H) (hl : lv_has ls 7 [(0, .ref b), (1, .ref (adC 0)), (2, .ref (adR 99)), (3, .ref q), (4, .int (nI k))]) (hInv : Inv mC mR) : W p l e room_1 s mm #[Value.ref b] below meth c H locs (144 + k) (5739 + k) (lw_Z below #[Value.ref b] s) (F0 mm 865 ls []) := by
  have hx := XC.1
  have hb := XC.2.1
  have hbA : ¬ (fun z : Nat => s.heap.size ≤ z) b := Nat.not_le.mpr hbl
  have hf : (144 + k) + 0 ≤ room_1.cells ∧ (5739 + k) + 0 ≤ room_1.slots := ⟨(show 144 + k + 0 ≤ 601024 by omega), (show 5739 + k + 0 ≤ 7293034 by omega)⟩
  have hin1 : vp_in (nI k + (1 : Int32)) L := by
    rw [show (1 : Int32) = nI 1 from rfl, nI_add]
    exact vp_in_nI (by omega) (by omega)
  have hin2 : vp_in (nI k + (2 : Int32)) L := by
    rw [show (2 : Int32) = nI 2 from rfl, nI_add]
    exact vp_in_nI (by omega) (by omega)
  obtain ⟨r, mR2, h1, h2, hInv⟩ := hop mC mR (xs (nI k + (1 : Int32)).toNatClampNeg) (xs (nI k + (2 : Int32)).toNatClampNeg) hInv
  refine lv_aload_n hx hb dL_law_865 rfl (lv_at hl 1 rfl) ?_
  refine lv_aload_n hx hb dL_law_866 rfl (lv_at hl 0 rfl) ?_
  refine lv_iload hx hb dL_law_867 (lv_at hl 4 rfl) ?_
  refine lv_iconst (v := 1) hx hb dL_law_869 (by decide) ?_
  refine lv_iadd hx hb dL_law_870 ?_
  refine va_sld hx hb hX hbl hbA hC.2 hin1 dL_law_871 ?_
  refine lv_aload_n hx hb dL_law_872 rfl (lv_at hl 0 rfl) ?_
  refine lv_iload hx hb dL_law_873 (lv_at hl 4 rfl) ?_
  refine lv_iconst (v := 2) hx hb dL_law_875 (by decide) ?_
  refine lv_iadd hx hb dL_law_876 ?_
  refine va_sld hx hb hX hbl hbA hC.2 hin2 dL_law_877 ?_
  refine backIf XC hC (F := fun H => va_P D clsL (wl (rca ca) adR mR) H ∧ va_P D clsL (oC ca q o) H) (fun H1 hk1 => ⟨wl_kF hR hJ.1 hk1, oC_kF hO hJ.2.1 hk1⟩) (runVt XC hC (ctX11_addFor N (xs (nI k + (1 : Int32)).toNatClampNeg) (xs (nI k + (2 : Int32)).toNatClampNeg) (HNc_c ca) mC r h1 _) mdL_101 (la_0 (HNc_c ca)) rfl ⟨rfl, rfl⟩ ⟨Nat.le_of_ble_eq_true rfl, Nat.le_of_ble_eq_true rfl⟩ rfl hl.1 rfl (Nat.le_of_ble_eq_true rfl) dL_law_878 hf) (fun H locs hC hF => ?_)
  obtain ⟨hR, hO⟩ := hF
  refine lv_aload_n hx hb dL_law_881 rfl (lv_at hl 2 rfl) ?_
  refine lv_aload_n hx hb dL_law_882 rfl (lv_at hl 0 rfl) ?_
  refine lv_iload hx hb dL_law_883 (lv_at hl 4 rfl) ?_
  refine lv_iconst (v := 1) hx hb dL_law_885 (by decide) ?_
  refine lv_iadd hx hb dL_law_886 ?_
  refine va_sld hx hb hX hbl hbA hC.2 hin1 dL_law_887 ?_
  refine lv_aload_n hx hb dL_law_888 rfl (lv_at hl 0 rfl) ?_
  refine lv_iload hx hb dL_law_889 (lv_at hl 4 rfl) ?_
  refine lv_iconst (v := 2) hx hb dL_law_891 (by decide) ?_
  refine lv_iadd hx hb dL_law_892 ?_
  refine va_sld hx hb hX hbl hbA hC.2 hin2 dL_law_893 ?_
  have hRI : IW D (rca ca) adR (fun z : Nat => s.heap.size ≤ z) s mR H locs := ⟨hR, hC.2⟩
  refine backIf XR hRI (F := fun H => va_P D clsL (wl (cca ca) adC mC) H ∧ va_P D clsL (oC ca q o) H) (fun H1 hk1 => ⟨wl_kF hC.1 (fun i j hi hj e => hJ.1 j i hj hi e.symm) hk1, oC_kF hO hJ.2.2 hk1⟩) (runVt XR hRI (ctX12_addFor N (xs (nI k + (1 : Int32)).toNatClampNeg) (xs (nI k + (2 : Int32)).toNatClampNeg) (HNr_r ca) mR (r, mR2) h2 _) mdL_104 (la_99 (HNr_r ca)) rfl ⟨rfl, rfl⟩ ⟨Nat.le_of_ble_eq_true rfl, Nat.le_of_ble_eq_true rfl⟩ rfl hl.1 rfl (Nat.le_of_ble_eq_true rfl) dL_law_894 hf) (fun H locs hRI hF => ?_)
  obtain ⟨hC, hO⟩ := hF
  refine lv_icmp_eq (tgt := 1538) hx hb dL_law_897 (by decide) (fun _ => ?_) (fun cq => absurd rfl cq)
  refine W.widen (k := 144 + k + 1) (n := 5739 + k + 6) (by omega) (by omega) ?_
  exact kk mC mR2 o H locs ls hInv ⟨hC, hRI.2⟩ hRI.1 hO hl
set_option maxHeartbeats 4000000 in
set_option maxRecDepth 100000 in
theorem law18 {p : Program} {l : Launch} {e : Env} {s : State} {mm : MethodId} {below : List Frame} {meth : Method} {c : Code} {D : va_G} {ca : Nat → ClassId} {adC adR : Nat → Nat} {b L q k : Nat} {xs : Nat → Int32} (hL : L ≤ 3072) (hk : k + 6 ≤ L) (XC : CX p s mm #[Value.ref b] meth c code 7 RL D (cca ca) adC (fun z : Nat => s.heap.size ≤ z)) (XR : CX p s mm #[Value.ref b] meth c code 7 RL D (rca ca) adR (fun z : Nat => s.heap.size ≤ z)) (hX : va_X b L xs s s.heap) (hbl : b < s.heap.size) (hJ : DJ ca adC adR q) {Inv : Mem → Mem → Prop} {N : Nat} (hop : OP18 Inv N) (kk : ∀ (mC mR : Mem) (o : Nat → Int64) (H : Heap) (locs : List Loc) (ls : Array Slot), Inv mC mR → IW D (cca ca) adC (fun z : Nat => s.heap.size ≤ z) s mC H locs → va_P D clsL (wl (rca ca) adR mR) H → va_P D clsL (oC ca q o) H → lv_has ls 7 [(0, .ref b), (1, .ref (adC 0)), (2, .ref (adR 99)), (3, .ref q), (4, .int (nI k))] → W p l e room_1 s mm #[Value.ref b] below meth c H locs (144 + k + 1) (5739 + k + 6) (lw_Z below #[Value.ref b] s) (F0 mm 1538 ls [])) (mC mR : Mem) (o : Nat → Int64) (H : Heap) (locs : List Loc) (ls : Array Slot) (hC : IW D (cca ca) adC (fun z : Nat => s.heap.size ≤ z) s mC H locs) (hR : va_P D clsL (wl (rca ca) adR mR) H) (hO : va_P D clsL (oC ca q o) H) (hl : lv_has ls 7 [(0, .ref b), (1, .ref (adC 0)), (2, .ref (adR 99)), (3, .ref q), (4, .int (nI k))]) (hInv : Inv mC mR) : W p l e room_1 s mm #[Value.ref b] below meth c H locs (144 + k) (5739 + k) (lw_Z below #[Value.ref b] s) (F0 mm 902 ls []) := by
  have hx := XC.1
  have hb := XC.2.1
  have hbA : ¬ (fun z : Nat => s.heap.size ≤ z) b := Nat.not_le.mpr hbl
  have hf : (144 + k) + 0 ≤ room_1.cells ∧ (5739 + k) + 0 ≤ room_1.slots := ⟨(show 144 + k + 0 ≤ 601024 by omega), (show 5739 + k + 0 ≤ 7293034 by omega)⟩
  have hin1 : vp_in (nI k + (1 : Int32)) L := by
    rw [show (1 : Int32) = nI 1 from rfl, nI_add]
    exact vp_in_nI (by omega) (by omega)
  obtain ⟨r, mR2, h1, h2, hInv⟩ := hop mC mR (xs (nI k + (1 : Int32)).toNatClampNeg) hInv
  refine lv_aload_n hx hb dL_law_902 rfl (lv_at hl 1 rfl) ?_
  refine lv_aload_n hx hb dL_law_903 rfl (lv_at hl 0 rfl) ?_
  refine lv_iload hx hb dL_law_904 (lv_at hl 4 rfl) ?_
  refine lv_iconst (v := 1) hx hb dL_law_906 (by decide) ?_
  refine lv_iadd hx hb dL_law_907 ?_
  refine va_sld hx hb hX hbl hbA hC.2 hin1 dL_law_908 ?_
  refine backIf XC hC (F := fun H => va_P D clsL (wl (rca ca) adR mR) H ∧ va_P D clsL (oC ca q o) H) (fun H1 hk1 => ⟨wl_kF hR hJ.1 hk1, oC_kF hO hJ.2.1 hk1⟩) (runVt XC hC (ctX11_coal N (xs (nI k + (1 : Int32)).toNatClampNeg) (HNc_c ca) mC r h1 _) mdL_105 (la_0 (HNc_c ca)) rfl ⟨rfl, rfl⟩ ⟨Nat.le_of_ble_eq_true rfl, Nat.le_of_ble_eq_true rfl⟩ rfl hl.1 rfl (Nat.le_of_ble_eq_true rfl) dL_law_909 hf) (fun H locs hC hF => ?_)
  obtain ⟨hR, hO⟩ := hF
  refine lv_aload_n hx hb dL_law_912 rfl (lv_at hl 2 rfl) ?_
  refine lv_aload_n hx hb dL_law_913 rfl (lv_at hl 0 rfl) ?_
  refine lv_iload hx hb dL_law_914 (lv_at hl 4 rfl) ?_
  refine lv_iconst (v := 1) hx hb dL_law_916 (by decide) ?_
  refine lv_iadd hx hb dL_law_917 ?_
  refine va_sld hx hb hX hbl hbA hC.2 hin1 dL_law_918 ?_
  have hRI : IW D (rca ca) adR (fun z : Nat => s.heap.size ≤ z) s mR H locs := ⟨hR, hC.2⟩
  refine backIf XR hRI (F := fun H => va_P D clsL (wl (cca ca) adC mC) H ∧ va_P D clsL (oC ca q o) H) (fun H1 hk1 => ⟨wl_kF hC.1 (fun i j hi hj e => hJ.1 j i hj hi e.symm) hk1, oC_kF hO hJ.2.2 hk1⟩) (runVt XR hRI (ctX12_coal N (xs (nI k + (1 : Int32)).toNatClampNeg) (HNr_r ca) mR (r, mR2) h2 _) mdL_108 (la_99 (HNr_r ca)) rfl ⟨rfl, rfl⟩ ⟨Nat.le_of_ble_eq_true rfl, Nat.le_of_ble_eq_true rfl⟩ rfl hl.1 rfl (Nat.le_of_ble_eq_true rfl) dL_law_919 hf) (fun H locs hRI hF => ?_)
  obtain ⟨hC, hO⟩ := hF
  refine lv_icmp_eq (tgt := 1538) hx hb dL_law_922 (by decide) (fun _ => ?_) (fun cq => absurd rfl cq)
  refine W.widen (k := 144 + k + 1) (n := 5739 + k + 6) (by omega) (by omega) ?_
  exact kk mC mR2 o H locs ls hInv ⟨hC, hRI.2⟩ hRI.1 hO hl
set_option maxHeartbeats 4000000 in
set_option maxRecDepth 100000 in
theorem law19 {p : Program} {l : Launch} {e : Env} {s : State} {mm : MethodId} {below : List Frame} {meth : Method} {c : Code} {D : va_G} {ca : Nat → ClassId} {adC adR : Nat → Nat} {b L q k : Nat} {xs : Nat → Int32} (hL : L ≤ 3072) (hk : k + 6 ≤ L) (XC : CX p s mm #[Value.ref b] meth c code 7 RL D (cca ca) adC (fun z : Nat => s.heap.size ≤ z)) (XR : CX p s mm #[Value.ref b] meth c code 7 RL D (rca ca) adR (fun z : Nat => s.heap.size ≤ z)) (hX : va_X b L xs s s.heap) (hbl : b < s.heap.size) (hJ : DJ ca adC adR q) {Inv : Mem → Mem → Prop} {N : Nat} (hop : OP19 Inv N) (kk : ∀ (mC mR : Mem) (o : Nat → Int64) (H : Heap) (locs : List Loc) (ls : Array Slot), Inv mC mR → IW D (cca ca) adC (fun z : Nat => s.heap.size ≤ z) s mC H locs → va_P D clsL (wl (rca ca) adR mR) H → va_P D clsL (oC ca q o) H → lv_has ls 7 [(0, .ref b), (1, .ref (adC 0)), (2, .ref (adR 99)), (3, .ref q), (4, .int (nI k))] → W p l e room_1 s mm #[Value.ref b] below meth c H locs (144 + k + 1) (5739 + k + 6) (lw_Z below #[Value.ref b] s) (F0 mm 1538 ls [])) (mC mR : Mem) (o : Nat → Int64) (H : Heap) (locs : List Loc) (ls : Array Slot) (hC : IW D (cca ca) adC (fun z : Nat => s.heap.size ≤ z) s mC H locs) (hR : va_P D clsL (wl (rca ca) adR mR) H) (hO : va_P D clsL (oC ca q o) H) (hl : lv_has ls 7 [(0, .ref b), (1, .ref (adC 0)), (2, .ref (adR 99)), (3, .ref q), (4, .int (nI k))]) (hInv : Inv mC mR) : W p l e room_1 s mm #[Value.ref b] below meth c H locs (144 + k) (5739 + k) (lw_Z below #[Value.ref b] s) (F0 mm 927 ls []) := by
  have hx := XC.1
  have hb := XC.2.1
  have hbA : ¬ (fun z : Nat => s.heap.size ≤ z) b := Nat.not_le.mpr hbl
  have hf : (144 + k) + 0 ≤ room_1.cells ∧ (5739 + k) + 0 ≤ room_1.slots := ⟨(show 144 + k + 0 ≤ 601024 by omega), (show 5739 + k + 0 ≤ 7293034 by omega)⟩
  have hin1 : vp_in (nI k + (1 : Int32)) L := by
    rw [show (1 : Int32) = nI 1 from rfl, nI_add]
    exact vp_in_nI (by omega) (by omega)
  have hin2 : vp_in (nI k + (2 : Int32)) L := by
    rw [show (2 : Int32) = nI 2 from rfl, nI_add]
    exact vp_in_nI (by omega) (by omega)
  obtain ⟨r, mR2, h1, h2, hInv⟩ := hop mC mR (xs (nI k + (1 : Int32)).toNatClampNeg) (xs (nI k + (2 : Int32)).toNatClampNeg) hInv
  refine lv_aload_n hx hb dL_law_927 rfl (lv_at hl 1 rfl) ?_
  refine lv_aload_n hx hb dL_law_928 rfl (lv_at hl 0 rfl) ?_
  refine lv_iload hx hb dL_law_929 (lv_at hl 4 rfl) ?_
  refine lv_iconst (v := 1) hx hb dL_law_931 (by decide) ?_
  refine lv_iadd hx hb dL_law_932 ?_
  refine va_sld hx hb hX hbl hbA hC.2 hin1 dL_law_933 ?_
  refine lv_aload_n hx hb dL_law_934 rfl (lv_at hl 0 rfl) ?_
  refine lv_iload hx hb dL_law_935 (lv_at hl 4 rfl) ?_
  refine lv_iconst (v := 2) hx hb dL_law_937 (by decide) ?_
  refine lv_iadd hx hb dL_law_938 ?_
  refine va_sld hx hb hX hbl hbA hC.2 hin2 dL_law_939 ?_
  refine backIf XC hC (F := fun H => va_P D clsL (wl (rca ca) adR mR) H ∧ va_P D clsL (oC ca q o) H) (fun H1 hk1 => ⟨wl_kF hR hJ.1 hk1, oC_kF hO hJ.2.1 hk1⟩) (runVt XC hC (ctX11_together N (xs (nI k + (1 : Int32)).toNatClampNeg) (xs (nI k + (2 : Int32)).toNatClampNeg) (HNc_c ca) mC r h1 _) mdL_109 (la_0 (HNc_c ca)) rfl ⟨rfl, rfl⟩ ⟨Nat.le_of_ble_eq_true rfl, Nat.le_of_ble_eq_true rfl⟩ rfl hl.1 rfl (Nat.le_of_ble_eq_true rfl) dL_law_940 hf) (fun H locs hC hF => ?_)
  obtain ⟨hR, hO⟩ := hF
  refine lv_aload_n hx hb dL_law_943 rfl (lv_at hl 2 rfl) ?_
  refine lv_aload_n hx hb dL_law_944 rfl (lv_at hl 0 rfl) ?_
  refine lv_iload hx hb dL_law_945 (lv_at hl 4 rfl) ?_
  refine lv_iconst (v := 1) hx hb dL_law_947 (by decide) ?_
  refine lv_iadd hx hb dL_law_948 ?_
  refine va_sld hx hb hX hbl hbA hC.2 hin1 dL_law_949 ?_
  refine lv_aload_n hx hb dL_law_950 rfl (lv_at hl 0 rfl) ?_
  refine lv_iload hx hb dL_law_951 (lv_at hl 4 rfl) ?_
  refine lv_iconst (v := 2) hx hb dL_law_953 (by decide) ?_
  refine lv_iadd hx hb dL_law_954 ?_
  refine va_sld hx hb hX hbl hbA hC.2 hin2 dL_law_955 ?_
  have hRI : IW D (rca ca) adR (fun z : Nat => s.heap.size ≤ z) s mR H locs := ⟨hR, hC.2⟩
  refine backIf XR hRI (F := fun H => va_P D clsL (wl (cca ca) adC mC) H ∧ va_P D clsL (oC ca q o) H) (fun H1 hk1 => ⟨wl_kF hC.1 (fun i j hi hj e => hJ.1 j i hj hi e.symm) hk1, oC_kF hO hJ.2.2 hk1⟩) (runVt XR hRI (ctX12_together N (xs (nI k + (1 : Int32)).toNatClampNeg) (xs (nI k + (2 : Int32)).toNatClampNeg) (HNr_r ca) mR (r, mR2) h2 _) mdL_112 (la_99 (HNr_r ca)) rfl ⟨rfl, rfl⟩ ⟨Nat.le_of_ble_eq_true rfl, Nat.le_of_ble_eq_true rfl⟩ rfl hl.1 rfl (Nat.le_of_ble_eq_true rfl) dL_law_956 hf) (fun H locs hRI hF => ?_)
  obtain ⟨hC, hO⟩ := hF
  refine lv_icmp_eq (tgt := 1538) hx hb dL_law_959 (by decide) (fun _ => ?_) (fun cq => absurd rfl cq)
  refine W.widen (k := 144 + k + 1) (n := 5739 + k + 6) (by omega) (by omega) ?_
  exact kk mC mR2 o H locs ls hInv ⟨hC, hRI.2⟩ hRI.1 hO hl
set_option maxHeartbeats 4000000 in
set_option maxRecDepth 100000 in
theorem law20 {p : Program} {l : Launch} {e : Env} {s : State} {mm : MethodId} {below : List Frame} {meth : Method} {c : Code} {D : va_G} {ca : Nat → ClassId} {adC adR : Nat → Nat} {b L q k : Nat} {xs : Nat → Int32} (hL : L ≤ 3072) (hk : k + 6 ≤ L) (XC : CX p s mm #[Value.ref b] meth c code 7 RL D (cca ca) adC (fun z : Nat => s.heap.size ≤ z)) (XR : CX p s mm #[Value.ref b] meth c code 7 RL D (rca ca) adR (fun z : Nat => s.heap.size ≤ z)) (hX : va_X b L xs s s.heap) (hbl : b < s.heap.size) (hJ : DJ ca adC adR q) {Inv : Mem → Mem → Prop} {N : Nat} (hop : OP20 Inv N) (kk : ∀ (mC mR : Mem) (o : Nat → Int64) (H : Heap) (locs : List Loc) (ls : Array Slot), Inv mC mR → IW D (cca ca) adC (fun z : Nat => s.heap.size ≤ z) s mC H locs → va_P D clsL (wl (rca ca) adR mR) H → va_P D clsL (oC ca q o) H → lv_has ls 7 [(0, .ref b), (1, .ref (adC 0)), (2, .ref (adR 99)), (3, .ref q), (4, .int (nI k))] → W p l e room_1 s mm #[Value.ref b] below meth c H locs (144 + k + 1) (5739 + k + 6) (lw_Z below #[Value.ref b] s) (F0 mm 1538 ls [])) (mC mR : Mem) (o : Nat → Int64) (H : Heap) (locs : List Loc) (ls : Array Slot) (hC : IW D (cca ca) adC (fun z : Nat => s.heap.size ≤ z) s mC H locs) (hR : va_P D clsL (wl (rca ca) adR mR) H) (hO : va_P D clsL (oC ca q o) H) (hl : lv_has ls 7 [(0, .ref b), (1, .ref (adC 0)), (2, .ref (adR 99)), (3, .ref q), (4, .int (nI k))]) (hInv : Inv mC mR) : W p l e room_1 s mm #[Value.ref b] below meth c H locs (144 + k) (5739 + k) (lw_Z below #[Value.ref b] s) (F0 mm 964 ls []) := by
  have hx := XC.1
  have hb := XC.2.1
  have hbA : ¬ (fun z : Nat => s.heap.size ≤ z) b := Nat.not_le.mpr hbl
  have hf : (144 + k) + 0 ≤ room_1.cells ∧ (5739 + k) + 0 ≤ room_1.slots := ⟨(show 144 + k + 0 ≤ 601024 by omega), (show 5739 + k + 0 ≤ 7293034 by omega)⟩
  have hin1 : vp_in (nI k + (1 : Int32)) L := by
    rw [show (1 : Int32) = nI 1 from rfl, nI_add]
    exact vp_in_nI (by omega) (by omega)
  obtain ⟨r, mC2, mR2, h1, h2, hInv⟩ := hop mC mR (xs (nI k + (1 : Int32)).toNatClampNeg) hInv
  refine lv_aload_n hx hb dL_law_964 rfl (lv_at hl 1 rfl) ?_
  refine lv_aload_n hx hb dL_law_965 rfl (lv_at hl 0 rfl) ?_
  refine lv_iload hx hb dL_law_966 (lv_at hl 4 rfl) ?_
  refine lv_iconst (v := 1) hx hb dL_law_968 (by decide) ?_
  refine lv_iadd hx hb dL_law_969 ?_
  refine va_sld hx hb hX hbl hbA hC.2 hin1 dL_law_970 ?_
  refine backIf XC hC (F := fun H => va_P D clsL (wl (rca ca) adR mR) H ∧ va_P D clsL (oC ca q o) H) (fun H1 hk1 => ⟨wl_kF hR hJ.1 hk1, oC_kF hO hJ.2.1 hk1⟩) (runVt XC hC (ctX11_match N (xs (nI k + (1 : Int32)).toNatClampNeg) (HNc_c ca) mC (r, mC2) h1 _) mdL_113 (la_0 (HNc_c ca)) rfl ⟨rfl, rfl⟩ ⟨Nat.le_of_ble_eq_true rfl, Nat.le_of_ble_eq_true rfl⟩ rfl hl.1 rfl (Nat.le_of_ble_eq_true rfl) dL_law_971 hf) (fun H locs hC hF => ?_)
  obtain ⟨hR, hO⟩ := hF
  refine lv_aload_n hx hb dL_law_974 rfl (lv_at hl 2 rfl) ?_
  refine lv_aload_n hx hb dL_law_975 rfl (lv_at hl 0 rfl) ?_
  refine lv_iload hx hb dL_law_976 (lv_at hl 4 rfl) ?_
  refine lv_iconst (v := 1) hx hb dL_law_978 (by decide) ?_
  refine lv_iadd hx hb dL_law_979 ?_
  refine va_sld hx hb hX hbl hbA hC.2 hin1 dL_law_980 ?_
  have hRI : IW D (rca ca) adR (fun z : Nat => s.heap.size ≤ z) s mR H locs := ⟨hR, hC.2⟩
  refine backIf XR hRI (F := fun H => va_P D clsL (wl (cca ca) adC mC2) H ∧ va_P D clsL (oC ca q o) H) (fun H1 hk1 => ⟨wl_kF hC.1 (fun i j hi hj e => hJ.1 j i hj hi e.symm) hk1, oC_kF hO hJ.2.2 hk1⟩) (runVt XR hRI (ctX12_match N (xs (nI k + (1 : Int32)).toNatClampNeg) (HNr_r ca) mR (r, mR2) h2 _) mdL_116 (la_99 (HNr_r ca)) rfl ⟨rfl, rfl⟩ ⟨Nat.le_of_ble_eq_true rfl, Nat.le_of_ble_eq_true rfl⟩ rfl hl.1 rfl (Nat.le_of_ble_eq_true rfl) dL_law_981 hf) (fun H locs hRI hF => ?_)
  obtain ⟨hC, hO⟩ := hF
  refine lv_icmp_eq (tgt := 1538) hx hb dL_law_984 (by decide) (fun _ => ?_) (fun cq => absurd rfl cq)
  refine W.widen (k := 144 + k + 1) (n := 5739 + k + 6) (by omega) (by omega) ?_
  exact kk mC2 mR2 o H locs ls hInv ⟨hC, hRI.2⟩ hRI.1 hO hl
set_option maxHeartbeats 4000000 in
set_option maxRecDepth 100000 in
theorem law21 {p : Program} {l : Launch} {e : Env} {s : State} {mm : MethodId} {below : List Frame} {meth : Method} {c : Code} {D : va_G} {ca : Nat → ClassId} {adC adR : Nat → Nat} {b L q k : Nat} {xs : Nat → Int32} (hL : L ≤ 3072) (hk : k + 6 ≤ L) (XC : CX p s mm #[Value.ref b] meth c code 7 RL D (cca ca) adC (fun z : Nat => s.heap.size ≤ z)) (XR : CX p s mm #[Value.ref b] meth c code 7 RL D (rca ca) adR (fun z : Nat => s.heap.size ≤ z)) (hX : va_X b L xs s s.heap) (hbl : b < s.heap.size) (hJ : DJ ca adC adR q) {Inv : Mem → Mem → Prop} {N : Nat} (hop : OP21 Inv N) (kk : ∀ (mC mR : Mem) (o : Nat → Int64) (H : Heap) (locs : List Loc) (ls : Array Slot), Inv mC mR → IW D (cca ca) adC (fun z : Nat => s.heap.size ≤ z) s mC H locs → va_P D clsL (wl (rca ca) adR mR) H → va_P D clsL (oC ca q o) H → lv_has ls 7 [(0, .ref b), (1, .ref (adC 0)), (2, .ref (adR 99)), (3, .ref q), (4, .int (nI k))] → W p l e room_1 s mm #[Value.ref b] below meth c H locs (144 + k + 1) (5739 + k + 6) (lw_Z below #[Value.ref b] s) (F0 mm 1538 ls [])) (mC mR : Mem) (o : Nat → Int64) (H : Heap) (locs : List Loc) (ls : Array Slot) (hC : IW D (cca ca) adC (fun z : Nat => s.heap.size ≤ z) s mC H locs) (hR : va_P D clsL (wl (rca ca) adR mR) H) (hO : va_P D clsL (oC ca q o) H) (hl : lv_has ls 7 [(0, .ref b), (1, .ref (adC 0)), (2, .ref (adR 99)), (3, .ref q), (4, .int (nI k))]) (hInv : Inv mC mR) : W p l e room_1 s mm #[Value.ref b] below meth c H locs (144 + k) (5739 + k) (lw_Z below #[Value.ref b] s) (F0 mm 989 ls []) := by
  have hx := XC.1
  have hb := XC.2.1
  have hbA : ¬ (fun z : Nat => s.heap.size ≤ z) b := Nat.not_le.mpr hbl
  have hf : (144 + k) + 0 ≤ room_1.cells ∧ (5739 + k) + 0 ≤ room_1.slots := ⟨(show 144 + k + 0 ≤ 601024 by omega), (show 5739 + k + 0 ≤ 7293034 by omega)⟩
  have hin1 : vp_in (nI k + (1 : Int32)) L := by
    rw [show (1 : Int32) = nI 1 from rfl, nI_add]
    exact vp_in_nI (by omega) (by omega)
  have hin2 : vp_in (nI k + (2 : Int32)) L := by
    rw [show (2 : Int32) = nI 2 from rfl, nI_add]
    exact vp_in_nI (by omega) (by omega)
  have hin3 : vp_in (nI k + (3 : Int32)) L := by
    rw [show (3 : Int32) = nI 3 from rfl, nI_add]
    exact vp_in_nI (by omega) (by omega)
  obtain ⟨r, mR2, h1, h2, hInv⟩ := hop mC mR (xs (nI k + (1 : Int32)).toNatClampNeg) (xs (nI k + (2 : Int32)).toNatClampNeg) (xs (nI k + (3 : Int32)).toNatClampNeg) hInv
  refine lv_aload_n hx hb dL_law_989 rfl (lv_at hl 1 rfl) ?_
  refine lv_aload_n hx hb dL_law_990 rfl (lv_at hl 0 rfl) ?_
  refine lv_iload hx hb dL_law_991 (lv_at hl 4 rfl) ?_
  refine lv_iconst (v := 1) hx hb dL_law_993 (by decide) ?_
  refine lv_iadd hx hb dL_law_994 ?_
  refine va_sld hx hb hX hbl hbA hC.2 hin1 dL_law_995 ?_
  refine lv_aload_n hx hb dL_law_996 rfl (lv_at hl 0 rfl) ?_
  refine lv_iload hx hb dL_law_997 (lv_at hl 4 rfl) ?_
  refine lv_iconst (v := 2) hx hb dL_law_999 (by decide) ?_
  refine lv_iadd hx hb dL_law_1000 ?_
  refine va_sld hx hb hX hbl hbA hC.2 hin2 dL_law_1001 ?_
  refine lv_aload_n hx hb dL_law_1002 rfl (lv_at hl 0 rfl) ?_
  refine lv_iload hx hb dL_law_1003 (lv_at hl 4 rfl) ?_
  refine lv_iconst (v := 3) hx hb dL_law_1005 (by decide) ?_
  refine lv_iadd hx hb dL_law_1006 ?_
  refine va_sld hx hb hX hbl hbA hC.2 hin3 dL_law_1007 ?_
  refine backIf XC hC (F := fun H => va_P D clsL (wl (rca ca) adR mR) H ∧ va_P D clsL (oC ca q o) H) (fun H1 hk1 => ⟨wl_kF hR hJ.1 hk1, oC_kF hO hJ.2.1 hk1⟩) (runVt XC hC (ctX11_game N (xs (nI k + (1 : Int32)).toNatClampNeg) (xs (nI k + (2 : Int32)).toNatClampNeg) (xs (nI k + (3 : Int32)).toNatClampNeg) (HNc_c ca) mC r h1 _) mdL_117 (la_0 (HNc_c ca)) rfl ⟨rfl, rfl⟩ ⟨Nat.le_of_ble_eq_true rfl, Nat.le_of_ble_eq_true rfl⟩ rfl hl.1 rfl (Nat.le_of_ble_eq_true rfl) dL_law_1008 hf) (fun H locs hC hF => ?_)
  obtain ⟨hR, hO⟩ := hF
  refine lv_aload_n hx hb dL_law_1011 rfl (lv_at hl 2 rfl) ?_
  refine lv_aload_n hx hb dL_law_1012 rfl (lv_at hl 0 rfl) ?_
  refine lv_iload hx hb dL_law_1013 (lv_at hl 4 rfl) ?_
  refine lv_iconst (v := 1) hx hb dL_law_1015 (by decide) ?_
  refine lv_iadd hx hb dL_law_1016 ?_
  refine va_sld hx hb hX hbl hbA hC.2 hin1 dL_law_1017 ?_
  refine lv_aload_n hx hb dL_law_1018 rfl (lv_at hl 0 rfl) ?_
  refine lv_iload hx hb dL_law_1019 (lv_at hl 4 rfl) ?_
  refine lv_iconst (v := 2) hx hb dL_law_1021 (by decide) ?_
  refine lv_iadd hx hb dL_law_1022 ?_
  refine va_sld hx hb hX hbl hbA hC.2 hin2 dL_law_1023 ?_
  refine lv_aload_n hx hb dL_law_1024 rfl (lv_at hl 0 rfl) ?_
  refine lv_iload hx hb dL_law_1025 (lv_at hl 4 rfl) ?_
  refine lv_iconst (v := 3) hx hb dL_law_1027 (by decide) ?_
  refine lv_iadd hx hb dL_law_1028 ?_
  refine va_sld hx hb hX hbl hbA hC.2 hin3 dL_law_1029 ?_
  have hRI : IW D (rca ca) adR (fun z : Nat => s.heap.size ≤ z) s mR H locs := ⟨hR, hC.2⟩
  refine backIf XR hRI (F := fun H => va_P D clsL (wl (cca ca) adC mC) H ∧ va_P D clsL (oC ca q o) H) (fun H1 hk1 => ⟨wl_kF hC.1 (fun i j hi hj e => hJ.1 j i hj hi e.symm) hk1, oC_kF hO hJ.2.2 hk1⟩) (runVt XR hRI (ctX12_game N (xs (nI k + (1 : Int32)).toNatClampNeg) (xs (nI k + (2 : Int32)).toNatClampNeg) (xs (nI k + (3 : Int32)).toNatClampNeg) (HNr_r ca) mR (r, mR2) h2 _) mdL_120 (la_99 (HNr_r ca)) rfl ⟨rfl, rfl⟩ ⟨Nat.le_of_ble_eq_true rfl, Nat.le_of_ble_eq_true rfl⟩ rfl hl.1 rfl (Nat.le_of_ble_eq_true rfl) dL_law_1030 hf) (fun H locs hRI hF => ?_)
  obtain ⟨hC, hO⟩ := hF
  refine lv_icmp_eq (tgt := 1538) hx hb dL_law_1033 (by decide) (fun _ => ?_) (fun cq => absurd rfl cq)
  refine W.widen (k := 144 + k + 1) (n := 5739 + k + 6) (by omega) (by omega) ?_
  exact kk mC mR2 o H locs ls hInv ⟨hC, hRI.2⟩ hRI.1 hO hl
set_option maxHeartbeats 4000000 in
set_option maxRecDepth 100000 in
theorem law22 {p : Program} {l : Launch} {e : Env} {s : State} {mm : MethodId} {below : List Frame} {meth : Method} {c : Code} {D : va_G} {ca : Nat → ClassId} {adC adR : Nat → Nat} {b L q k : Nat} {xs : Nat → Int32} (hL : L ≤ 3072) (hk : k + 6 ≤ L) (XC : CX p s mm #[Value.ref b] meth c code 7 RL D (cca ca) adC (fun z : Nat => s.heap.size ≤ z)) (XR : CX p s mm #[Value.ref b] meth c code 7 RL D (rca ca) adR (fun z : Nat => s.heap.size ≤ z)) (hX : va_X b L xs s s.heap) (hbl : b < s.heap.size) (hJ : DJ ca adC adR q) {Inv : Mem → Mem → Prop} {N : Nat} (hop : OP22 Inv N) (kk : ∀ (mC mR : Mem) (o : Nat → Int64) (H : Heap) (locs : List Loc) (ls : Array Slot), Inv mC mR → IW D (cca ca) adC (fun z : Nat => s.heap.size ≤ z) s mC H locs → va_P D clsL (wl (rca ca) adR mR) H → va_P D clsL (oC ca q o) H → lv_has ls 7 [(0, .ref b), (1, .ref (adC 0)), (2, .ref (adR 99)), (3, .ref q), (4, .int (nI k))] → W p l e room_1 s mm #[Value.ref b] below meth c H locs (144 + k + 1) (5739 + k + 6) (lw_Z below #[Value.ref b] s) (F0 mm 1538 ls [])) (mC mR : Mem) (o : Nat → Int64) (H : Heap) (locs : List Loc) (ls : Array Slot) (hC : IW D (cca ca) adC (fun z : Nat => s.heap.size ≤ z) s mC H locs) (hR : va_P D clsL (wl (rca ca) adR mR) H) (hO : va_P D clsL (oC ca q o) H) (hl : lv_has ls 7 [(0, .ref b), (1, .ref (adC 0)), (2, .ref (adR 99)), (3, .ref q), (4, .int (nI k))]) (hInv : Inv mC mR) : W p l e room_1 s mm #[Value.ref b] below meth c H locs (144 + k) (5739 + k) (lw_Z below #[Value.ref b] s) (F0 mm 1038 ls []) := by
  have hx := XC.1
  have hb := XC.2.1
  have hbA : ¬ (fun z : Nat => s.heap.size ≤ z) b := Nat.not_le.mpr hbl
  have hf : (144 + k) + 0 ≤ room_1.cells ∧ (5739 + k) + 0 ≤ room_1.slots := ⟨(show 144 + k + 0 ≤ 601024 by omega), (show 5739 + k + 0 ≤ 7293034 by omega)⟩
  have hin1 : vp_in (nI k + (1 : Int32)) L := by
    rw [show (1 : Int32) = nI 1 from rfl, nI_add]
    exact vp_in_nI (by omega) (by omega)
  obtain ⟨r, mC2, mR2, h1, h2, hInv⟩ := hop mC mR (xs (nI k + (1 : Int32)).toNatClampNeg) hInv
  refine lv_aload_n hx hb dL_law_1038 rfl (lv_at hl 1 rfl) ?_
  refine lv_aload_n hx hb dL_law_1039 rfl (lv_at hl 0 rfl) ?_
  refine lv_iload hx hb dL_law_1040 (lv_at hl 4 rfl) ?_
  refine lv_iconst (v := 1) hx hb dL_law_1042 (by decide) ?_
  refine lv_iadd hx hb dL_law_1043 ?_
  refine va_sld hx hb hX hbl hbA hC.2 hin1 dL_law_1044 ?_
  refine backIf XC hC (F := fun H => va_P D clsL (wl (rca ca) adR mR) H ∧ va_P D clsL (oC ca q o) H) (fun H1 hk1 => ⟨wl_kF hR hJ.1 hk1, oC_kF hO hJ.2.1 hk1⟩) (runVt XC hC (ctX11_tells N (xs (nI k + (1 : Int32)).toNatClampNeg) (HNc_c ca) mC (r, mC2) h1 _) mdL_121 (la_0 (HNc_c ca)) rfl ⟨rfl, rfl⟩ ⟨Nat.le_of_ble_eq_true rfl, Nat.le_of_ble_eq_true rfl⟩ rfl hl.1 rfl (Nat.le_of_ble_eq_true rfl) dL_law_1045 hf) (fun H locs hC hF => ?_)
  obtain ⟨hR, hO⟩ := hF
  refine lv_aload_n hx hb dL_law_1048 rfl (lv_at hl 2 rfl) ?_
  refine lv_aload_n hx hb dL_law_1049 rfl (lv_at hl 0 rfl) ?_
  refine lv_iload hx hb dL_law_1050 (lv_at hl 4 rfl) ?_
  refine lv_iconst (v := 1) hx hb dL_law_1052 (by decide) ?_
  refine lv_iadd hx hb dL_law_1053 ?_
  refine va_sld hx hb hX hbl hbA hC.2 hin1 dL_law_1054 ?_
  have hRI : IW D (rca ca) adR (fun z : Nat => s.heap.size ≤ z) s mR H locs := ⟨hR, hC.2⟩
  refine backIf XR hRI (F := fun H => va_P D clsL (wl (cca ca) adC mC2) H ∧ va_P D clsL (oC ca q o) H) (fun H1 hk1 => ⟨wl_kF hC.1 (fun i j hi hj e => hJ.1 j i hj hi e.symm) hk1, oC_kF hO hJ.2.2 hk1⟩) (runVt XR hRI (ctX12_tells N (xs (nI k + (1 : Int32)).toNatClampNeg) (HNr_r ca) mR (r, mR2) h2 _) mdL_124 (la_99 (HNr_r ca)) rfl ⟨rfl, rfl⟩ ⟨Nat.le_of_ble_eq_true rfl, Nat.le_of_ble_eq_true rfl⟩ rfl hl.1 rfl (Nat.le_of_ble_eq_true rfl) dL_law_1055 hf) (fun H locs hRI hF => ?_)
  obtain ⟨hC, hO⟩ := hF
  refine lv_icmp_eq (tgt := 1538) hx hb dL_law_1058 (by decide) (fun _ => ?_) (fun cq => absurd rfl cq)
  refine W.widen (k := 144 + k + 1) (n := 5739 + k + 6) (by omega) (by omega) ?_
  exact kk mC2 mR2 o H locs ls hInv ⟨hC, hRI.2⟩ hRI.1 hO hl
set_option maxHeartbeats 4000000 in
set_option maxRecDepth 100000 in
theorem law23 {p : Program} {l : Launch} {e : Env} {s : State} {mm : MethodId} {below : List Frame} {meth : Method} {c : Code} {D : va_G} {ca : Nat → ClassId} {adC adR : Nat → Nat} {b L q k : Nat} {xs : Nat → Int32} (hL : L ≤ 3072) (hk : k + 6 ≤ L) (XC : CX p s mm #[Value.ref b] meth c code 7 RL D (cca ca) adC (fun z : Nat => s.heap.size ≤ z)) (XR : CX p s mm #[Value.ref b] meth c code 7 RL D (rca ca) adR (fun z : Nat => s.heap.size ≤ z)) (hX : va_X b L xs s s.heap) (hbl : b < s.heap.size) (hJ : DJ ca adC adR q) {Inv : Mem → Mem → Prop} {N : Nat} (hop : OP23 Inv N) (kk : ∀ (mC mR : Mem) (o : Nat → Int64) (H : Heap) (locs : List Loc) (ls : Array Slot), Inv mC mR → IW D (cca ca) adC (fun z : Nat => s.heap.size ≤ z) s mC H locs → va_P D clsL (wl (rca ca) adR mR) H → va_P D clsL (oC ca q o) H → lv_has ls 7 [(0, .ref b), (1, .ref (adC 0)), (2, .ref (adR 99)), (3, .ref q), (4, .int (nI k))] → W p l e room_1 s mm #[Value.ref b] below meth c H locs (144 + k + 1) (5739 + k + 6) (lw_Z below #[Value.ref b] s) (F0 mm 1538 ls [])) (mC mR : Mem) (o : Nat → Int64) (H : Heap) (locs : List Loc) (ls : Array Slot) (hC : IW D (cca ca) adC (fun z : Nat => s.heap.size ≤ z) s mC H locs) (hR : va_P D clsL (wl (rca ca) adR mR) H) (hO : va_P D clsL (oC ca q o) H) (hl : lv_has ls 7 [(0, .ref b), (1, .ref (adC 0)), (2, .ref (adR 99)), (3, .ref q), (4, .int (nI k))]) (hInv : Inv mC mR) : W p l e room_1 s mm #[Value.ref b] below meth c H locs (144 + k) (5739 + k) (lw_Z below #[Value.ref b] s) (F0 mm 1063 ls []) := by
  have hx := XC.1
  have hb := XC.2.1
  have hbA : ¬ (fun z : Nat => s.heap.size ≤ z) b := Nat.not_le.mpr hbl
  have hf : (144 + k) + 0 ≤ room_1.cells ∧ (5739 + k) + 0 ≤ room_1.slots := ⟨(show 144 + k + 0 ≤ 601024 by omega), (show 5739 + k + 0 ≤ 7293034 by omega)⟩
  have hin1 : vp_in (nI k + (1 : Int32)) L := by
    rw [show (1 : Int32) = nI 1 from rfl, nI_add]
    exact vp_in_nI (by omega) (by omega)
  have hin2 : vp_in (nI k + (2 : Int32)) L := by
    rw [show (2 : Int32) = nI 2 from rfl, nI_add]
    exact vp_in_nI (by omega) (by omega)
  obtain ⟨r, mR2, h1, h2, hInv⟩ := hop mC mR (xs (nI k + (1 : Int32)).toNatClampNeg) (xs (nI k + (2 : Int32)).toNatClampNeg) hInv
  refine lv_aload_n hx hb dL_law_1063 rfl (lv_at hl 1 rfl) ?_
  refine lv_aload_n hx hb dL_law_1064 rfl (lv_at hl 0 rfl) ?_
  refine lv_iload hx hb dL_law_1065 (lv_at hl 4 rfl) ?_
  refine lv_iconst (v := 1) hx hb dL_law_1067 (by decide) ?_
  refine lv_iadd hx hb dL_law_1068 ?_
  refine va_sld hx hb hX hbl hbA hC.2 hin1 dL_law_1069 ?_
  refine lv_aload_n hx hb dL_law_1070 rfl (lv_at hl 0 rfl) ?_
  refine lv_iload hx hb dL_law_1071 (lv_at hl 4 rfl) ?_
  refine lv_iconst (v := 2) hx hb dL_law_1073 (by decide) ?_
  refine lv_iadd hx hb dL_law_1074 ?_
  refine va_sld hx hb hX hbl hbA hC.2 hin2 dL_law_1075 ?_
  refine backIf XC hC (F := fun H => va_P D clsL (wl (rca ca) adR mR) H ∧ va_P D clsL (oC ca q o) H) (fun H1 hk1 => ⟨wl_kF hR hJ.1 hk1, oC_kF hO hJ.2.1 hk1⟩) (runVt XC hC (ctX11_rests N (xs (nI k + (1 : Int32)).toNatClampNeg) (xs (nI k + (2 : Int32)).toNatClampNeg) (HNc_c ca) mC r h1 _) mdL_125 (la_0 (HNc_c ca)) rfl ⟨rfl, rfl⟩ ⟨Nat.le_of_ble_eq_true rfl, Nat.le_of_ble_eq_true rfl⟩ rfl hl.1 rfl (Nat.le_of_ble_eq_true rfl) dL_law_1076 hf) (fun H locs hC hF => ?_)
  obtain ⟨hR, hO⟩ := hF
  refine lv_aload_n hx hb dL_law_1079 rfl (lv_at hl 2 rfl) ?_
  refine lv_aload_n hx hb dL_law_1080 rfl (lv_at hl 0 rfl) ?_
  refine lv_iload hx hb dL_law_1081 (lv_at hl 4 rfl) ?_
  refine lv_iconst (v := 1) hx hb dL_law_1083 (by decide) ?_
  refine lv_iadd hx hb dL_law_1084 ?_
  refine va_sld hx hb hX hbl hbA hC.2 hin1 dL_law_1085 ?_
  refine lv_aload_n hx hb dL_law_1086 rfl (lv_at hl 0 rfl) ?_
  refine lv_iload hx hb dL_law_1087 (lv_at hl 4 rfl) ?_
  refine lv_iconst (v := 2) hx hb dL_law_1089 (by decide) ?_
  refine lv_iadd hx hb dL_law_1090 ?_
  refine va_sld hx hb hX hbl hbA hC.2 hin2 dL_law_1091 ?_
  have hRI : IW D (rca ca) adR (fun z : Nat => s.heap.size ≤ z) s mR H locs := ⟨hR, hC.2⟩
  refine backIf XR hRI (F := fun H => va_P D clsL (wl (cca ca) adC mC) H ∧ va_P D clsL (oC ca q o) H) (fun H1 hk1 => ⟨wl_kF hC.1 (fun i j hi hj e => hJ.1 j i hj hi e.symm) hk1, oC_kF hO hJ.2.2 hk1⟩) (runVt XR hRI (ctX12_rests N (xs (nI k + (1 : Int32)).toNatClampNeg) (xs (nI k + (2 : Int32)).toNatClampNeg) (HNr_r ca) mR (r, mR2) h2 _) mdL_128 (la_99 (HNr_r ca)) rfl ⟨rfl, rfl⟩ ⟨Nat.le_of_ble_eq_true rfl, Nat.le_of_ble_eq_true rfl⟩ rfl hl.1 rfl (Nat.le_of_ble_eq_true rfl) dL_law_1092 hf) (fun H locs hRI hF => ?_)
  obtain ⟨hC, hO⟩ := hF
  refine lv_icmp_eq (tgt := 1538) hx hb dL_law_1095 (by decide) (fun _ => ?_) (fun cq => absurd rfl cq)
  refine W.widen (k := 144 + k + 1) (n := 5739 + k + 6) (by omega) (by omega) ?_
  exact kk mC mR2 o H locs ls hInv ⟨hC, hRI.2⟩ hRI.1 hO hl
set_option maxHeartbeats 4000000 in
set_option maxRecDepth 100000 in
theorem law24 {p : Program} {l : Launch} {e : Env} {s : State} {mm : MethodId} {below : List Frame} {meth : Method} {c : Code} {D : va_G} {ca : Nat → ClassId} {adC adR : Nat → Nat} {b L q k : Nat} {xs : Nat → Int32} (hL : L ≤ 3072) (hk : k + 6 ≤ L) (XC : CX p s mm #[Value.ref b] meth c code 7 RL D (cca ca) adC (fun z : Nat => s.heap.size ≤ z)) (XR : CX p s mm #[Value.ref b] meth c code 7 RL D (rca ca) adR (fun z : Nat => s.heap.size ≤ z)) (hX : va_X b L xs s s.heap) (hbl : b < s.heap.size) (hJ : DJ ca adC adR q) {Inv : Mem → Mem → Prop} {N : Nat} (hop : OP24 Inv N) (kk : ∀ (mC mR : Mem) (o : Nat → Int64) (H : Heap) (locs : List Loc) (ls : Array Slot), Inv mC mR → IW D (cca ca) adC (fun z : Nat => s.heap.size ≤ z) s mC H locs → va_P D clsL (wl (rca ca) adR mR) H → va_P D clsL (oC ca q o) H → lv_has ls 7 [(0, .ref b), (1, .ref (adC 0)), (2, .ref (adR 99)), (3, .ref q), (4, .int (nI k))] → W p l e room_1 s mm #[Value.ref b] below meth c H locs (144 + k + 1) (5739 + k + 6) (lw_Z below #[Value.ref b] s) (F0 mm 1538 ls [])) (mC mR : Mem) (o : Nat → Int64) (H : Heap) (locs : List Loc) (ls : Array Slot) (hC : IW D (cca ca) adC (fun z : Nat => s.heap.size ≤ z) s mC H locs) (hR : va_P D clsL (wl (rca ca) adR mR) H) (hO : va_P D clsL (oC ca q o) H) (hl : lv_has ls 7 [(0, .ref b), (1, .ref (adC 0)), (2, .ref (adR 99)), (3, .ref q), (4, .int (nI k))]) (hInv : Inv mC mR) : W p l e room_1 s mm #[Value.ref b] below meth c H locs (144 + k) (5739 + k) (lw_Z below #[Value.ref b] s) (F0 mm 1100 ls []) := by
  have hx := XC.1
  have hb := XC.2.1
  have hbA : ¬ (fun z : Nat => s.heap.size ≤ z) b := Nat.not_le.mpr hbl
  have hf : (144 + k) + 0 ≤ room_1.cells ∧ (5739 + k) + 0 ≤ room_1.slots := ⟨(show 144 + k + 0 ≤ 601024 by omega), (show 5739 + k + 0 ≤ 7293034 by omega)⟩
  have hin1 : vp_in (nI k + (1 : Int32)) L := by
    rw [show (1 : Int32) = nI 1 from rfl, nI_add]
    exact vp_in_nI (by omega) (by omega)
  have hin2 : vp_in (nI k + (2 : Int32)) L := by
    rw [show (2 : Int32) = nI 2 from rfl, nI_add]
    exact vp_in_nI (by omega) (by omega)
  have hin3 : vp_in (nI k + (3 : Int32)) L := by
    rw [show (3 : Int32) = nI 3 from rfl, nI_add]
    exact vp_in_nI (by omega) (by omega)
  obtain ⟨r, mR2, h1, h2, hInv⟩ := hop mC mR (xs (nI k + (1 : Int32)).toNatClampNeg) (xs (nI k + (2 : Int32)).toNatClampNeg) (xs (nI k + (3 : Int32)).toNatClampNeg) hInv
  refine lv_aload_n hx hb dL_law_1100 rfl (lv_at hl 1 rfl) ?_
  refine lv_aload_n hx hb dL_law_1101 rfl (lv_at hl 0 rfl) ?_
  refine lv_iload hx hb dL_law_1102 (lv_at hl 4 rfl) ?_
  refine lv_iconst (v := 1) hx hb dL_law_1104 (by decide) ?_
  refine lv_iadd hx hb dL_law_1105 ?_
  refine va_sld hx hb hX hbl hbA hC.2 hin1 dL_law_1106 ?_
  refine lv_aload_n hx hb dL_law_1107 rfl (lv_at hl 0 rfl) ?_
  refine lv_iload hx hb dL_law_1108 (lv_at hl 4 rfl) ?_
  refine lv_iconst (v := 2) hx hb dL_law_1110 (by decide) ?_
  refine lv_iadd hx hb dL_law_1111 ?_
  refine va_sld hx hb hX hbl hbA hC.2 hin2 dL_law_1112 ?_
  refine lv_aload_n hx hb dL_law_1113 rfl (lv_at hl 0 rfl) ?_
  refine lv_iload hx hb dL_law_1114 (lv_at hl 4 rfl) ?_
  refine lv_iconst (v := 3) hx hb dL_law_1116 (by decide) ?_
  refine lv_iadd hx hb dL_law_1117 ?_
  refine va_sld hx hb hX hbl hbA hC.2 hin3 dL_law_1118 ?_
  refine backIf XC hC (F := fun H => va_P D clsL (wl (rca ca) adR mR) H ∧ va_P D clsL (oC ca q o) H) (fun H1 hk1 => ⟨wl_kF hR hJ.1 hk1, oC_kF hO hJ.2.1 hk1⟩) (runVt XC hC (ctX11_rest N (xs (nI k + (1 : Int32)).toNatClampNeg) (xs (nI k + (2 : Int32)).toNatClampNeg) (xs (nI k + (3 : Int32)).toNatClampNeg) (HNc_c ca) mC r h1 _) mdL_129 (la_0 (HNc_c ca)) rfl ⟨rfl, rfl⟩ ⟨Nat.le_of_ble_eq_true rfl, Nat.le_of_ble_eq_true rfl⟩ rfl hl.1 rfl (Nat.le_of_ble_eq_true rfl) dL_law_1119 hf) (fun H locs hC hF => ?_)
  obtain ⟨hR, hO⟩ := hF
  refine lv_aload_n hx hb dL_law_1122 rfl (lv_at hl 2 rfl) ?_
  refine lv_aload_n hx hb dL_law_1123 rfl (lv_at hl 0 rfl) ?_
  refine lv_iload hx hb dL_law_1124 (lv_at hl 4 rfl) ?_
  refine lv_iconst (v := 1) hx hb dL_law_1126 (by decide) ?_
  refine lv_iadd hx hb dL_law_1127 ?_
  refine va_sld hx hb hX hbl hbA hC.2 hin1 dL_law_1128 ?_
  refine lv_aload_n hx hb dL_law_1129 rfl (lv_at hl 0 rfl) ?_
  refine lv_iload hx hb dL_law_1130 (lv_at hl 4 rfl) ?_
  refine lv_iconst (v := 2) hx hb dL_law_1132 (by decide) ?_
  refine lv_iadd hx hb dL_law_1133 ?_
  refine va_sld hx hb hX hbl hbA hC.2 hin2 dL_law_1134 ?_
  refine lv_aload_n hx hb dL_law_1135 rfl (lv_at hl 0 rfl) ?_
  refine lv_iload hx hb dL_law_1136 (lv_at hl 4 rfl) ?_
  refine lv_iconst (v := 3) hx hb dL_law_1138 (by decide) ?_
  refine lv_iadd hx hb dL_law_1139 ?_
  refine va_sld hx hb hX hbl hbA hC.2 hin3 dL_law_1140 ?_
  have hRI : IW D (rca ca) adR (fun z : Nat => s.heap.size ≤ z) s mR H locs := ⟨hR, hC.2⟩
  refine backIf XR hRI (F := fun H => va_P D clsL (wl (cca ca) adC mC) H ∧ va_P D clsL (oC ca q o) H) (fun H1 hk1 => ⟨wl_kF hC.1 (fun i j hi hj e => hJ.1 j i hj hi e.symm) hk1, oC_kF hO hJ.2.2 hk1⟩) (runVt XR hRI (ctX12_rest N (xs (nI k + (1 : Int32)).toNatClampNeg) (xs (nI k + (2 : Int32)).toNatClampNeg) (xs (nI k + (3 : Int32)).toNatClampNeg) (HNr_r ca) mR (r, mR2) h2 _) mdL_132 (la_99 (HNr_r ca)) rfl ⟨rfl, rfl⟩ ⟨Nat.le_of_ble_eq_true rfl, Nat.le_of_ble_eq_true rfl⟩ rfl hl.1 rfl (Nat.le_of_ble_eq_true rfl) dL_law_1141 hf) (fun H locs hRI hF => ?_)
  obtain ⟨hC, hO⟩ := hF
  refine lv_icmp_eq (tgt := 1538) hx hb dL_law_1144 (by decide) (fun _ => ?_) (fun cq => absurd rfl cq)
  refine W.widen (k := 144 + k + 1) (n := 5739 + k + 6) (by omega) (by omega) ?_
  exact kk mC mR2 o H locs ls hInv ⟨hC, hRI.2⟩ hRI.1 hO hl
set_option maxHeartbeats 4000000 in
set_option maxRecDepth 100000 in
theorem law25 {p : Program} {l : Launch} {e : Env} {s : State} {mm : MethodId} {below : List Frame} {meth : Method} {c : Code} {D : va_G} {ca : Nat → ClassId} {adC adR : Nat → Nat} {b L q k : Nat} {xs : Nat → Int32} (hL : L ≤ 3072) (hk : k + 6 ≤ L) (XC : CX p s mm #[Value.ref b] meth c code 7 RL D (cca ca) adC (fun z : Nat => s.heap.size ≤ z)) (XR : CX p s mm #[Value.ref b] meth c code 7 RL D (rca ca) adR (fun z : Nat => s.heap.size ≤ z)) (hX : va_X b L xs s s.heap) (hbl : b < s.heap.size) (hJ : DJ ca adC adR q) {Inv : Mem → Mem → Prop} {N : Nat} (hop : OP25 Inv N) (kk : ∀ (mC mR : Mem) (o : Nat → Int64) (H : Heap) (locs : List Loc) (ls : Array Slot), Inv mC mR → IW D (cca ca) adC (fun z : Nat => s.heap.size ≤ z) s mC H locs → va_P D clsL (wl (rca ca) adR mR) H → va_P D clsL (oC ca q o) H → lv_has ls 7 [(0, .ref b), (1, .ref (adC 0)), (2, .ref (adR 99)), (3, .ref q), (4, .int (nI k))] → W p l e room_1 s mm #[Value.ref b] below meth c H locs (144 + k + 1) (5739 + k + 6) (lw_Z below #[Value.ref b] s) (F0 mm 1538 ls [])) (mC mR : Mem) (o : Nat → Int64) (H : Heap) (locs : List Loc) (ls : Array Slot) (hC : IW D (cca ca) adC (fun z : Nat => s.heap.size ≤ z) s mC H locs) (hR : va_P D clsL (wl (rca ca) adR mR) H) (hO : va_P D clsL (oC ca q o) H) (hl : lv_has ls 7 [(0, .ref b), (1, .ref (adC 0)), (2, .ref (adR 99)), (3, .ref q), (4, .int (nI k))]) (hInv : Inv mC mR) : W p l e room_1 s mm #[Value.ref b] below meth c H locs (144 + k) (5739 + k) (lw_Z below #[Value.ref b] s) (F0 mm 1149 ls []) := by
  have hx := XC.1
  have hb := XC.2.1
  have hbA : ¬ (fun z : Nat => s.heap.size ≤ z) b := Nat.not_le.mpr hbl
  have hf : (144 + k) + 0 ≤ room_1.cells ∧ (5739 + k) + 0 ≤ room_1.slots := ⟨(show 144 + k + 0 ≤ 601024 by omega), (show 5739 + k + 0 ≤ 7293034 by omega)⟩
  have hin1 : vp_in (nI k + (1 : Int32)) L := by
    rw [show (1 : Int32) = nI 1 from rfl, nI_add]
    exact vp_in_nI (by omega) (by omega)
  have hin2 : vp_in (nI k + (2 : Int32)) L := by
    rw [show (2 : Int32) = nI 2 from rfl, nI_add]
    exact vp_in_nI (by omega) (by omega)
  obtain ⟨r, mR2, h1, h2, hInv⟩ := hop mC mR (xs (nI k + (1 : Int32)).toNatClampNeg) (xs (nI k + (2 : Int32)).toNatClampNeg) hInv
  refine lv_aload_n hx hb dL_law_1149 rfl (lv_at hl 1 rfl) ?_
  refine lv_aload_n hx hb dL_law_1150 rfl (lv_at hl 0 rfl) ?_
  refine lv_iload hx hb dL_law_1151 (lv_at hl 4 rfl) ?_
  refine lv_iconst (v := 1) hx hb dL_law_1153 (by decide) ?_
  refine lv_iadd hx hb dL_law_1154 ?_
  refine va_sld hx hb hX hbl hbA hC.2 hin1 dL_law_1155 ?_
  refine lv_aload_n hx hb dL_law_1156 rfl (lv_at hl 0 rfl) ?_
  refine lv_iload hx hb dL_law_1157 (lv_at hl 4 rfl) ?_
  refine lv_iconst (v := 2) hx hb dL_law_1159 (by decide) ?_
  refine lv_iadd hx hb dL_law_1160 ?_
  refine va_sld hx hb hX hbl hbA hC.2 hin2 dL_law_1161 ?_
  refine backLf XC hC (F := fun H => va_P D clsL (wl (rca ca) adR mR) H ∧ va_P D clsL (oC ca q o) H) (fun H1 hk1 => ⟨wl_kF hR hJ.1 hk1, oC_kF hO hJ.2.1 hk1⟩) (runVt XC hC (ctX11_steady N (xs (nI k + (1 : Int32)).toNatClampNeg) (xs (nI k + (2 : Int32)).toNatClampNeg) (HNc_c ca) mC r h1 _) mdL_133 (la_0 (HNc_c ca)) rfl ⟨rfl, rfl⟩ ⟨Nat.le_of_ble_eq_true rfl, Nat.le_of_ble_eq_true rfl⟩ rfl hl.1 rfl (Nat.le_of_ble_eq_true rfl) dL_law_1162 hf) (fun H locs hC hF => ?_)
  obtain ⟨hR, hO⟩ := hF
  refine lv_aload_n hx hb dL_law_1165 rfl (lv_at hl 2 rfl) ?_
  refine lv_aload_n hx hb dL_law_1166 rfl (lv_at hl 0 rfl) ?_
  refine lv_iload hx hb dL_law_1167 (lv_at hl 4 rfl) ?_
  refine lv_iconst (v := 1) hx hb dL_law_1169 (by decide) ?_
  refine lv_iadd hx hb dL_law_1170 ?_
  refine va_sld hx hb hX hbl hbA hC.2 hin1 dL_law_1171 ?_
  refine lv_aload_n hx hb dL_law_1172 rfl (lv_at hl 0 rfl) ?_
  refine lv_iload hx hb dL_law_1173 (lv_at hl 4 rfl) ?_
  refine lv_iconst (v := 2) hx hb dL_law_1175 (by decide) ?_
  refine lv_iadd hx hb dL_law_1176 ?_
  refine va_sld hx hb hX hbl hbA hC.2 hin2 dL_law_1177 ?_
  have hRI : IW D (rca ca) adR (fun z : Nat => s.heap.size ≤ z) s mR H locs := ⟨hR, hC.2⟩
  refine backLf XR hRI (F := fun H => va_P D clsL (wl (cca ca) adC mC) H ∧ va_P D clsL (oC ca q o) H) (fun H1 hk1 => ⟨wl_kF hC.1 (fun i j hi hj e => hJ.1 j i hj hi e.symm) hk1, oC_kF hO hJ.2.2 hk1⟩) (runVt XR hRI (ctX12_steady N (xs (nI k + (1 : Int32)).toNatClampNeg) (xs (nI k + (2 : Int32)).toNatClampNeg) (HNr_r ca) mR (r, mR2) h2 _) mdL_137 (la_99 (HNr_r ca)) rfl ⟨rfl, rfl⟩ ⟨Nat.le_of_ble_eq_true rfl, Nat.le_of_ble_eq_true rfl⟩ rfl hl.1 rfl (Nat.le_of_ble_eq_true rfl) dL_law_1178 hf) (fun H locs hRI hF => ?_)
  obtain ⟨hC, hO⟩ := hF
  refine W.lcmp hx hb dL_law_1181 ?_
  refine lv_if_eq (tgt := 1538) hx hb dL_law_1182 (by decide) (fun _ => ?_) (fun cq => absurd (lg_cmp_self r) cq)
  refine W.widen (k := 144 + k + 1) (n := 5739 + k + 6) (by omega) (by omega) ?_
  exact kk mC mR2 o H locs ls hInv ⟨hC, hRI.2⟩ hRI.1 hO hl
set_option maxHeartbeats 4000000 in
set_option maxRecDepth 100000 in
theorem law26 {p : Program} {l : Launch} {e : Env} {s : State} {mm : MethodId} {below : List Frame} {meth : Method} {c : Code} {D : va_G} {ca : Nat → ClassId} {adC adR : Nat → Nat} {b L q k : Nat} {xs : Nat → Int32} (hL : L ≤ 3072) (hk : k + 6 ≤ L) (XC : CX p s mm #[Value.ref b] meth c code 7 RL D (cca ca) adC (fun z : Nat => s.heap.size ≤ z)) (XR : CX p s mm #[Value.ref b] meth c code 7 RL D (rca ca) adR (fun z : Nat => s.heap.size ≤ z)) (hX : va_X b L xs s s.heap) (hbl : b < s.heap.size) (hJ : DJ ca adC adR q) {Inv : Mem → Mem → Prop} {N : Nat} (hop : OP26 Inv N) (kk : ∀ (mC mR : Mem) (o : Nat → Int64) (H : Heap) (locs : List Loc) (ls : Array Slot), Inv mC mR → IW D (cca ca) adC (fun z : Nat => s.heap.size ≤ z) s mC H locs → va_P D clsL (wl (rca ca) adR mR) H → va_P D clsL (oC ca q o) H → lv_has ls 7 [(0, .ref b), (1, .ref (adC 0)), (2, .ref (adR 99)), (3, .ref q), (4, .int (nI k))] → W p l e room_1 s mm #[Value.ref b] below meth c H locs (144 + k + 1) (5739 + k + 6) (lw_Z below #[Value.ref b] s) (F0 mm 1538 ls [])) (mC mR : Mem) (o : Nat → Int64) (H : Heap) (locs : List Loc) (ls : Array Slot) (hC : IW D (cca ca) adC (fun z : Nat => s.heap.size ≤ z) s mC H locs) (hR : va_P D clsL (wl (rca ca) adR mR) H) (hO : va_P D clsL (oC ca q o) H) (hl : lv_has ls 7 [(0, .ref b), (1, .ref (adC 0)), (2, .ref (adR 99)), (3, .ref q), (4, .int (nI k))]) (hInv : Inv mC mR) : W p l e room_1 s mm #[Value.ref b] below meth c H locs (144 + k) (5739 + k) (lw_Z below #[Value.ref b] s) (F0 mm 1187 ls []) := by
  have hx := XC.1
  have hb := XC.2.1
  have hbA : ¬ (fun z : Nat => s.heap.size ≤ z) b := Nat.not_le.mpr hbl
  have hf : (144 + k) + 0 ≤ room_1.cells ∧ (5739 + k) + 0 ≤ room_1.slots := ⟨(show 144 + k + 0 ≤ 601024 by omega), (show 5739 + k + 0 ≤ 7293034 by omega)⟩
  have hin1 : vp_in (nI k + (1 : Int32)) L := by
    rw [show (1 : Int32) = nI 1 from rfl, nI_add]
    exact vp_in_nI (by omega) (by omega)
  have hin2 : vp_in (nI k + (2 : Int32)) L := by
    rw [show (2 : Int32) = nI 2 from rfl, nI_add]
    exact vp_in_nI (by omega) (by omega)
  have hin3 : vp_in (nI k + (3 : Int32)) L := by
    rw [show (3 : Int32) = nI 3 from rfl, nI_add]
    exact vp_in_nI (by omega) (by omega)
  have hin4 : vp_in (nI k + (4 : Int32)) L := by
    rw [show (4 : Int32) = nI 4 from rfl, nI_add]
    exact vp_in_nI (by omega) (by omega)
  by_cases cz : (xs (nI k + (4 : Int32)).toNatClampNeg) = 0
  · obtain ⟨r, mC2, mR2, h1, h2, hInv⟩ := hop mC mR (xs (nI k + (1 : Int32)).toNatClampNeg) (xs (nI k + (2 : Int32)).toNatClampNeg) (xs (nI k + (3 : Int32)).toNatClampNeg) (0 : Int32) hInv (by decide)
    refine lv_aload_n hx hb dL_law_1187 rfl (lv_at hl 1 rfl) ?_
    refine lv_aload_n hx hb dL_law_1188 rfl (lv_at hl 0 rfl) ?_
    refine lv_iload hx hb dL_law_1189 (lv_at hl 4 rfl) ?_
    refine lv_iconst (v := 1) hx hb dL_law_1191 (by decide) ?_
    refine lv_iadd hx hb dL_law_1192 ?_
    refine va_sld hx hb hX hbl hbA hC.2 hin1 dL_law_1193 ?_
    refine lv_aload_n hx hb dL_law_1194 rfl (lv_at hl 0 rfl) ?_
    refine lv_iload hx hb dL_law_1195 (lv_at hl 4 rfl) ?_
    refine lv_iconst (v := 2) hx hb dL_law_1197 (by decide) ?_
    refine lv_iadd hx hb dL_law_1198 ?_
    refine va_sld hx hb hX hbl hbA hC.2 hin2 dL_law_1199 ?_
    refine lv_aload_n hx hb dL_law_1200 rfl (lv_at hl 0 rfl) ?_
    refine lv_iload hx hb dL_law_1201 (lv_at hl 4 rfl) ?_
    refine lv_iconst (v := 3) hx hb dL_law_1203 (by decide) ?_
    refine lv_iadd hx hb dL_law_1204 ?_
    refine va_sld hx hb hX hbl hbA hC.2 hin3 dL_law_1205 ?_
    refine lv_aload_n hx hb dL_law_1206 rfl (lv_at hl 0 rfl) ?_
    refine lv_iload hx hb dL_law_1207 (lv_at hl 4 rfl) ?_
    refine lv_iconst (v := 4) hx hb dL_law_1209 (by decide) ?_
    refine lv_iadd hx hb dL_law_1210 ?_
    refine va_sld hx hb hX hbl hbA hC.2 hin4 dL_law_1211 ?_
    refine lv_if_eq (tgt := 1219) hx hb dL_law_1212 (by decide) (fun _ => ?_) (fun cq => absurd cz cq)
    refine lv_iconst (v := 0) hx hb dL_law_1219 (by decide) ?_
    refine backIf XC hC (F := fun H => va_P D clsL (wl (rca ca) adR mR) H ∧ va_P D clsL (oC ca q o) H) (fun H1 hk1 => ⟨wl_kF hR hJ.1 hk1, oC_kF hO hJ.2.1 hk1⟩) (runVt XC hC (ctX11_see (xs (nI k + (1 : Int32)).toNatClampNeg) (xs (nI k + (2 : Int32)).toNatClampNeg) (xs (nI k + (3 : Int32)).toNatClampNeg) (0 : Int32) (HNc_c ca) mC (r, mC2) h1 _) mdL_138 (la_0 (HNc_c ca)) rfl ⟨rfl, rfl⟩ ⟨Nat.le_of_ble_eq_true rfl, Nat.le_of_ble_eq_true rfl⟩ rfl hl.1 rfl (Nat.le_of_ble_eq_true rfl) dL_law_1220 hf) (fun H locs hC hF => ?_)
    obtain ⟨hR, hO⟩ := hF
    refine lv_aload_n hx hb dL_law_1223 rfl (lv_at hl 2 rfl) ?_
    refine lv_aload_n hx hb dL_law_1224 rfl (lv_at hl 0 rfl) ?_
    refine lv_iload hx hb dL_law_1225 (lv_at hl 4 rfl) ?_
    refine lv_iconst (v := 1) hx hb dL_law_1227 (by decide) ?_
    refine lv_iadd hx hb dL_law_1228 ?_
    refine va_sld hx hb hX hbl hbA hC.2 hin1 dL_law_1229 ?_
    refine lv_aload_n hx hb dL_law_1230 rfl (lv_at hl 0 rfl) ?_
    refine lv_iload hx hb dL_law_1231 (lv_at hl 4 rfl) ?_
    refine lv_iconst (v := 2) hx hb dL_law_1233 (by decide) ?_
    refine lv_iadd hx hb dL_law_1234 ?_
    refine va_sld hx hb hX hbl hbA hC.2 hin2 dL_law_1235 ?_
    refine lv_aload_n hx hb dL_law_1236 rfl (lv_at hl 0 rfl) ?_
    refine lv_iload hx hb dL_law_1237 (lv_at hl 4 rfl) ?_
    refine lv_iconst (v := 3) hx hb dL_law_1239 (by decide) ?_
    refine lv_iadd hx hb dL_law_1240 ?_
    refine va_sld hx hb hX hbl hbA hC.2 hin3 dL_law_1241 ?_
    refine lv_aload_n hx hb dL_law_1242 rfl (lv_at hl 0 rfl) ?_
    refine lv_iload hx hb dL_law_1243 (lv_at hl 4 rfl) ?_
    refine lv_iconst (v := 4) hx hb dL_law_1245 (by decide) ?_
    refine lv_iadd hx hb dL_law_1246 ?_
    refine va_sld hx hb hX hbl hbA hC.2 hin4 dL_law_1247 ?_
    refine lv_if_eq (tgt := 1255) hx hb dL_law_1248 (by decide) (fun _ => ?_) (fun cq => absurd cz cq)
    refine lv_iconst (v := 0) hx hb dL_law_1255 (by decide) ?_
    have hRI : IW D (rca ca) adR (fun z : Nat => s.heap.size ≤ z) s mR H locs := ⟨hR, hC.2⟩
    refine backIf XR hRI (F := fun H => va_P D clsL (wl (cca ca) adC mC2) H ∧ va_P D clsL (oC ca q o) H) (fun H1 hk1 => ⟨wl_kF hC.1 (fun i j hi hj e => hJ.1 j i hj hi e.symm) hk1, oC_kF hO hJ.2.2 hk1⟩) (runVt XR hRI (ctX12_see (xs (nI k + (1 : Int32)).toNatClampNeg) (xs (nI k + (2 : Int32)).toNatClampNeg) (xs (nI k + (3 : Int32)).toNatClampNeg) (0 : Int32) (HNr_r ca) mR (r, mR2) h2 _) mdL_142 (la_99 (HNr_r ca)) rfl ⟨rfl, rfl⟩ ⟨Nat.le_of_ble_eq_true rfl, Nat.le_of_ble_eq_true rfl⟩ rfl hl.1 rfl (Nat.le_of_ble_eq_true rfl) dL_law_1256 hf) (fun H locs hRI hF => ?_)
    obtain ⟨hC, hO⟩ := hF
    refine lv_icmp_eq (tgt := 1538) hx hb dL_law_1259 (by decide) (fun _ => ?_) (fun cq => absurd rfl cq)
    refine W.widen (k := 144 + k + 1) (n := 5739 + k + 6) (by omega) (by omega) ?_
    exact kk mC2 mR2 o H locs ls hInv ⟨hC, hRI.2⟩ hRI.1 hO hl
  · obtain ⟨r, mC2, mR2, h1, h2, hInv⟩ := hop mC mR (xs (nI k + (1 : Int32)).toNatClampNeg) (xs (nI k + (2 : Int32)).toNatClampNeg) (xs (nI k + (3 : Int32)).toNatClampNeg) (1 : Int32) hInv (by decide)
    refine lv_aload_n hx hb dL_law_1187 rfl (lv_at hl 1 rfl) ?_
    refine lv_aload_n hx hb dL_law_1188 rfl (lv_at hl 0 rfl) ?_
    refine lv_iload hx hb dL_law_1189 (lv_at hl 4 rfl) ?_
    refine lv_iconst (v := 1) hx hb dL_law_1191 (by decide) ?_
    refine lv_iadd hx hb dL_law_1192 ?_
    refine va_sld hx hb hX hbl hbA hC.2 hin1 dL_law_1193 ?_
    refine lv_aload_n hx hb dL_law_1194 rfl (lv_at hl 0 rfl) ?_
    refine lv_iload hx hb dL_law_1195 (lv_at hl 4 rfl) ?_
    refine lv_iconst (v := 2) hx hb dL_law_1197 (by decide) ?_
    refine lv_iadd hx hb dL_law_1198 ?_
    refine va_sld hx hb hX hbl hbA hC.2 hin2 dL_law_1199 ?_
    refine lv_aload_n hx hb dL_law_1200 rfl (lv_at hl 0 rfl) ?_
    refine lv_iload hx hb dL_law_1201 (lv_at hl 4 rfl) ?_
    refine lv_iconst (v := 3) hx hb dL_law_1203 (by decide) ?_
    refine lv_iadd hx hb dL_law_1204 ?_
    refine va_sld hx hb hX hbl hbA hC.2 hin3 dL_law_1205 ?_
    refine lv_aload_n hx hb dL_law_1206 rfl (lv_at hl 0 rfl) ?_
    refine lv_iload hx hb dL_law_1207 (lv_at hl 4 rfl) ?_
    refine lv_iconst (v := 4) hx hb dL_law_1209 (by decide) ?_
    refine lv_iadd hx hb dL_law_1210 ?_
    refine va_sld hx hb hX hbl hbA hC.2 hin4 dL_law_1211 ?_
    refine lv_if_eq (tgt := 1219) hx hb dL_law_1212 (by decide) (fun cq => absurd cq cz) (fun _ => ?_)
    refine lv_iconst (v := 1) hx hb dL_law_1215 (by decide) ?_
    refine lv_goto (tgt := 1220) hx hb dL_law_1216 (by decide) ?_
    refine backIf XC hC (F := fun H => va_P D clsL (wl (rca ca) adR mR) H ∧ va_P D clsL (oC ca q o) H) (fun H1 hk1 => ⟨wl_kF hR hJ.1 hk1, oC_kF hO hJ.2.1 hk1⟩) (runVt XC hC (ctX11_see (xs (nI k + (1 : Int32)).toNatClampNeg) (xs (nI k + (2 : Int32)).toNatClampNeg) (xs (nI k + (3 : Int32)).toNatClampNeg) (1 : Int32) (HNc_c ca) mC (r, mC2) h1 _) mdL_138 (la_0 (HNc_c ca)) rfl ⟨rfl, rfl⟩ ⟨Nat.le_of_ble_eq_true rfl, Nat.le_of_ble_eq_true rfl⟩ rfl hl.1 rfl (Nat.le_of_ble_eq_true rfl) dL_law_1220 hf) (fun H locs hC hF => ?_)
    obtain ⟨hR, hO⟩ := hF
    refine lv_aload_n hx hb dL_law_1223 rfl (lv_at hl 2 rfl) ?_
    refine lv_aload_n hx hb dL_law_1224 rfl (lv_at hl 0 rfl) ?_
    refine lv_iload hx hb dL_law_1225 (lv_at hl 4 rfl) ?_
    refine lv_iconst (v := 1) hx hb dL_law_1227 (by decide) ?_
    refine lv_iadd hx hb dL_law_1228 ?_
    refine va_sld hx hb hX hbl hbA hC.2 hin1 dL_law_1229 ?_
    refine lv_aload_n hx hb dL_law_1230 rfl (lv_at hl 0 rfl) ?_
    refine lv_iload hx hb dL_law_1231 (lv_at hl 4 rfl) ?_
    refine lv_iconst (v := 2) hx hb dL_law_1233 (by decide) ?_
    refine lv_iadd hx hb dL_law_1234 ?_
    refine va_sld hx hb hX hbl hbA hC.2 hin2 dL_law_1235 ?_
    refine lv_aload_n hx hb dL_law_1236 rfl (lv_at hl 0 rfl) ?_
    refine lv_iload hx hb dL_law_1237 (lv_at hl 4 rfl) ?_
    refine lv_iconst (v := 3) hx hb dL_law_1239 (by decide) ?_
    refine lv_iadd hx hb dL_law_1240 ?_
    refine va_sld hx hb hX hbl hbA hC.2 hin3 dL_law_1241 ?_
    refine lv_aload_n hx hb dL_law_1242 rfl (lv_at hl 0 rfl) ?_
    refine lv_iload hx hb dL_law_1243 (lv_at hl 4 rfl) ?_
    refine lv_iconst (v := 4) hx hb dL_law_1245 (by decide) ?_
    refine lv_iadd hx hb dL_law_1246 ?_
    refine va_sld hx hb hX hbl hbA hC.2 hin4 dL_law_1247 ?_
    refine lv_if_eq (tgt := 1255) hx hb dL_law_1248 (by decide) (fun cq => absurd cq cz) (fun _ => ?_)
    refine lv_iconst (v := 1) hx hb dL_law_1251 (by decide) ?_
    refine lv_goto (tgt := 1256) hx hb dL_law_1252 (by decide) ?_
    have hRI : IW D (rca ca) adR (fun z : Nat => s.heap.size ≤ z) s mR H locs := ⟨hR, hC.2⟩
    refine backIf XR hRI (F := fun H => va_P D clsL (wl (cca ca) adC mC2) H ∧ va_P D clsL (oC ca q o) H) (fun H1 hk1 => ⟨wl_kF hC.1 (fun i j hi hj e => hJ.1 j i hj hi e.symm) hk1, oC_kF hO hJ.2.2 hk1⟩) (runVt XR hRI (ctX12_see (xs (nI k + (1 : Int32)).toNatClampNeg) (xs (nI k + (2 : Int32)).toNatClampNeg) (xs (nI k + (3 : Int32)).toNatClampNeg) (1 : Int32) (HNr_r ca) mR (r, mR2) h2 _) mdL_142 (la_99 (HNr_r ca)) rfl ⟨rfl, rfl⟩ ⟨Nat.le_of_ble_eq_true rfl, Nat.le_of_ble_eq_true rfl⟩ rfl hl.1 rfl (Nat.le_of_ble_eq_true rfl) dL_law_1256 hf) (fun H locs hRI hF => ?_)
    obtain ⟨hC, hO⟩ := hF
    refine lv_icmp_eq (tgt := 1538) hx hb dL_law_1259 (by decide) (fun _ => ?_) (fun cq => absurd rfl cq)
    refine W.widen (k := 144 + k + 1) (n := 5739 + k + 6) (by omega) (by omega) ?_
    exact kk mC2 mR2 o H locs ls hInv ⟨hC, hRI.2⟩ hRI.1 hO hl
set_option maxHeartbeats 4000000 in
set_option maxRecDepth 100000 in
theorem law27 {p : Program} {l : Launch} {e : Env} {s : State} {mm : MethodId} {below : List Frame} {meth : Method} {c : Code} {D : va_G} {ca : Nat → ClassId} {adC adR : Nat → Nat} {b L q k : Nat} {xs : Nat → Int32} (hL : L ≤ 3072) (hk : k + 6 ≤ L) (XC : CX p s mm #[Value.ref b] meth c code 7 RL D (cca ca) adC (fun z : Nat => s.heap.size ≤ z)) (XR : CX p s mm #[Value.ref b] meth c code 7 RL D (rca ca) adR (fun z : Nat => s.heap.size ≤ z)) (hX : va_X b L xs s s.heap) (hbl : b < s.heap.size) (hJ : DJ ca adC adR q) {Inv : Mem → Mem → Prop} {N : Nat} (hop : OP27 Inv N) (kk : ∀ (mC mR : Mem) (o : Nat → Int64) (H : Heap) (locs : List Loc) (ls : Array Slot), Inv mC mR → IW D (cca ca) adC (fun z : Nat => s.heap.size ≤ z) s mC H locs → va_P D clsL (wl (rca ca) adR mR) H → va_P D clsL (oC ca q o) H → lv_has ls 7 [(0, .ref b), (1, .ref (adC 0)), (2, .ref (adR 99)), (3, .ref q), (4, .int (nI k))] → W p l e room_1 s mm #[Value.ref b] below meth c H locs (144 + k + 1) (5739 + k + 6) (lw_Z below #[Value.ref b] s) (F0 mm 1538 ls [])) (mC mR : Mem) (o : Nat → Int64) (H : Heap) (locs : List Loc) (ls : Array Slot) (hC : IW D (cca ca) adC (fun z : Nat => s.heap.size ≤ z) s mC H locs) (hR : va_P D clsL (wl (rca ca) adR mR) H) (hO : va_P D clsL (oC ca q o) H) (hl : lv_has ls 7 [(0, .ref b), (1, .ref (adC 0)), (2, .ref (adR 99)), (3, .ref q), (4, .int (nI k))]) (hInv : Inv mC mR) : W p l e room_1 s mm #[Value.ref b] below meth c H locs (144 + k) (5739 + k) (lw_Z below #[Value.ref b] s) (F0 mm 1264 ls []) := by
  have hx := XC.1
  have hb := XC.2.1
  have hbA : ¬ (fun z : Nat => s.heap.size ≤ z) b := Nat.not_le.mpr hbl
  have hf : (144 + k) + 0 ≤ room_1.cells ∧ (5739 + k) + 0 ≤ room_1.slots := ⟨(show 144 + k + 0 ≤ 601024 by omega), (show 5739 + k + 0 ≤ 7293034 by omega)⟩
  have hin1 : vp_in (nI k + (1 : Int32)) L := by
    rw [show (1 : Int32) = nI 1 from rfl, nI_add]
    exact vp_in_nI (by omega) (by omega)
  obtain ⟨r, mC2, mR2, h1, h2, hInv⟩ := hop mC mR (xs (nI k + (1 : Int32)).toNatClampNeg) hInv
  refine lv_aload_n hx hb dL_law_1264 rfl (lv_at hl 1 rfl) ?_
  refine lv_aload_n hx hb dL_law_1265 rfl (lv_at hl 0 rfl) ?_
  refine lv_iload hx hb dL_law_1266 (lv_at hl 4 rfl) ?_
  refine lv_iconst (v := 1) hx hb dL_law_1268 (by decide) ?_
  refine lv_iadd hx hb dL_law_1269 ?_
  refine va_sld hx hb hX hbl hbA hC.2 hin1 dL_law_1270 ?_
  refine backIf XC hC (F := fun H => va_P D clsL (wl (rca ca) adR mR) H ∧ va_P D clsL (oC ca q o) H) (fun H1 hk1 => ⟨wl_kF hR hJ.1 hk1, oC_kF hO hJ.2.1 hk1⟩) (runVt XC hC (ctX11_strike (xs (nI k + (1 : Int32)).toNatClampNeg) (HNc_c ca) mC (r, mC2) h1 _) mdL_143 (la_0 (HNc_c ca)) rfl ⟨rfl, rfl⟩ ⟨Nat.le_of_ble_eq_true rfl, Nat.le_of_ble_eq_true rfl⟩ rfl hl.1 rfl (Nat.le_of_ble_eq_true rfl) dL_law_1271 hf) (fun H locs hC hF => ?_)
  obtain ⟨hR, hO⟩ := hF
  refine lv_aload_n hx hb dL_law_1274 rfl (lv_at hl 2 rfl) ?_
  refine lv_aload_n hx hb dL_law_1275 rfl (lv_at hl 0 rfl) ?_
  refine lv_iload hx hb dL_law_1276 (lv_at hl 4 rfl) ?_
  refine lv_iconst (v := 1) hx hb dL_law_1278 (by decide) ?_
  refine lv_iadd hx hb dL_law_1279 ?_
  refine va_sld hx hb hX hbl hbA hC.2 hin1 dL_law_1280 ?_
  have hRI : IW D (rca ca) adR (fun z : Nat => s.heap.size ≤ z) s mR H locs := ⟨hR, hC.2⟩
  refine backIf XR hRI (F := fun H => va_P D clsL (wl (cca ca) adC mC2) H ∧ va_P D clsL (oC ca q o) H) (fun H1 hk1 => ⟨wl_kF hC.1 (fun i j hi hj e => hJ.1 j i hj hi e.symm) hk1, oC_kF hO hJ.2.2 hk1⟩) (runVt XR hRI (ctX12_strike (xs (nI k + (1 : Int32)).toNatClampNeg) (HNr_r ca) mR (r, mR2) h2 _) mdL_146 (la_99 (HNr_r ca)) rfl ⟨rfl, rfl⟩ ⟨Nat.le_of_ble_eq_true rfl, Nat.le_of_ble_eq_true rfl⟩ rfl hl.1 rfl (Nat.le_of_ble_eq_true rfl) dL_law_1281 hf) (fun H locs hRI hF => ?_)
  obtain ⟨hC, hO⟩ := hF
  refine lv_icmp_eq (tgt := 1538) hx hb dL_law_1284 (by decide) (fun _ => ?_) (fun cq => absurd rfl cq)
  refine W.widen (k := 144 + k + 1) (n := 5739 + k + 6) (by omega) (by omega) ?_
  exact kk mC2 mR2 o H locs ls hInv ⟨hC, hRI.2⟩ hRI.1 hO hl
set_option maxHeartbeats 4000000 in
set_option maxRecDepth 100000 in
theorem law28 {p : Program} {l : Launch} {e : Env} {s : State} {mm : MethodId} {below : List Frame} {meth : Method} {c : Code} {D : va_G} {ca : Nat → ClassId} {adC adR : Nat → Nat} {b L q k : Nat} {xs : Nat → Int32} (hL : L ≤ 3072) (hk : k + 6 ≤ L) (XC : CX p s mm #[Value.ref b] meth c code 7 RL D (cca ca) adC (fun z : Nat => s.heap.size ≤ z)) (XR : CX p s mm #[Value.ref b] meth c code 7 RL D (rca ca) adR (fun z : Nat => s.heap.size ≤ z)) (hX : va_X b L xs s s.heap) (hbl : b < s.heap.size) (hJ : DJ ca adC adR q) {Inv : Mem → Mem → Prop} {N : Nat} (hop : OP28 Inv N) (kk : ∀ (mC mR : Mem) (o : Nat → Int64) (H : Heap) (locs : List Loc) (ls : Array Slot), Inv mC mR → IW D (cca ca) adC (fun z : Nat => s.heap.size ≤ z) s mC H locs → va_P D clsL (wl (rca ca) adR mR) H → va_P D clsL (oC ca q o) H → lv_has ls 7 [(0, .ref b), (1, .ref (adC 0)), (2, .ref (adR 99)), (3, .ref q), (4, .int (nI k))] → W p l e room_1 s mm #[Value.ref b] below meth c H locs (144 + k + 1) (5739 + k + 6) (lw_Z below #[Value.ref b] s) (F0 mm 1538 ls [])) (mC mR : Mem) (o : Nat → Int64) (H : Heap) (locs : List Loc) (ls : Array Slot) (hC : IW D (cca ca) adC (fun z : Nat => s.heap.size ≤ z) s mC H locs) (hR : va_P D clsL (wl (rca ca) adR mR) H) (hO : va_P D clsL (oC ca q o) H) (hl : lv_has ls 7 [(0, .ref b), (1, .ref (adC 0)), (2, .ref (adR 99)), (3, .ref q), (4, .int (nI k))]) (hInv : Inv mC mR) : W p l e room_1 s mm #[Value.ref b] below meth c H locs (144 + k) (5739 + k) (lw_Z below #[Value.ref b] s) (F0 mm 1289 ls []) := by
  have hx := XC.1
  have hb := XC.2.1
  have hbA : ¬ (fun z : Nat => s.heap.size ≤ z) b := Nat.not_le.mpr hbl
  have hf : (144 + k) + 0 ≤ room_1.cells ∧ (5739 + k) + 0 ≤ room_1.slots := ⟨(show 144 + k + 0 ≤ 601024 by omega), (show 5739 + k + 0 ≤ 7293034 by omega)⟩
  have hin1 : vp_in (nI k + (1 : Int32)) L := by
    rw [show (1 : Int32) = nI 1 from rfl, nI_add]
    exact vp_in_nI (by omega) (by omega)
  obtain ⟨r, mC2, mR2, h1, h2, hInv⟩ := hop mC mR (xs (nI k + (1 : Int32)).toNatClampNeg) hInv
  refine lv_aload_n hx hb dL_law_1289 rfl (lv_at hl 1 rfl) ?_
  refine lv_aload_n hx hb dL_law_1290 rfl (lv_at hl 0 rfl) ?_
  refine lv_iload hx hb dL_law_1291 (lv_at hl 4 rfl) ?_
  refine lv_iconst (v := 1) hx hb dL_law_1293 (by decide) ?_
  refine lv_iadd hx hb dL_law_1294 ?_
  refine va_sld hx hb hX hbl hbA hC.2 hin1 dL_law_1295 ?_
  refine backIf XC hC (F := fun H => va_P D clsL (wl (rca ca) adR mR) H ∧ va_P D clsL (oC ca q o) H) (fun H1 hk1 => ⟨wl_kF hR hJ.1 hk1, oC_kF hO hJ.2.1 hk1⟩) (runVt XC hC (ctX11_known (xs (nI k + (1 : Int32)).toNatClampNeg) (HNc_c ca) mC (r, mC2) h1 _) mdL_147 (la_0 (HNc_c ca)) rfl ⟨rfl, rfl⟩ ⟨Nat.le_of_ble_eq_true rfl, Nat.le_of_ble_eq_true rfl⟩ rfl hl.1 rfl (Nat.le_of_ble_eq_true rfl) dL_law_1296 hf) (fun H locs hC hF => ?_)
  obtain ⟨hR, hO⟩ := hF
  refine lv_aload_n hx hb dL_law_1299 rfl (lv_at hl 2 rfl) ?_
  refine lv_aload_n hx hb dL_law_1300 rfl (lv_at hl 0 rfl) ?_
  refine lv_iload hx hb dL_law_1301 (lv_at hl 4 rfl) ?_
  refine lv_iconst (v := 1) hx hb dL_law_1303 (by decide) ?_
  refine lv_iadd hx hb dL_law_1304 ?_
  refine va_sld hx hb hX hbl hbA hC.2 hin1 dL_law_1305 ?_
  have hRI : IW D (rca ca) adR (fun z : Nat => s.heap.size ≤ z) s mR H locs := ⟨hR, hC.2⟩
  refine backIf XR hRI (F := fun H => va_P D clsL (wl (cca ca) adC mC2) H ∧ va_P D clsL (oC ca q o) H) (fun H1 hk1 => ⟨wl_kF hC.1 (fun i j hi hj e => hJ.1 j i hj hi e.symm) hk1, oC_kF hO hJ.2.2 hk1⟩) (runVt XR hRI (ctX12_known (xs (nI k + (1 : Int32)).toNatClampNeg) (HNr_r ca) mR (r, mR2) h2 _) mdL_150 (la_99 (HNr_r ca)) rfl ⟨rfl, rfl⟩ ⟨Nat.le_of_ble_eq_true rfl, Nat.le_of_ble_eq_true rfl⟩ rfl hl.1 rfl (Nat.le_of_ble_eq_true rfl) dL_law_1306 hf) (fun H locs hRI hF => ?_)
  obtain ⟨hC, hO⟩ := hF
  refine lv_icmp_eq (tgt := 1538) hx hb dL_law_1309 (by decide) (fun _ => ?_) (fun cq => absurd rfl cq)
  refine W.widen (k := 144 + k + 1) (n := 5739 + k + 6) (by omega) (by omega) ?_
  exact kk mC2 mR2 o H locs ls hInv ⟨hC, hRI.2⟩ hRI.1 hO hl
set_option maxHeartbeats 4000000 in
set_option maxRecDepth 100000 in
theorem law29 {p : Program} {l : Launch} {e : Env} {s : State} {mm : MethodId} {below : List Frame} {meth : Method} {c : Code} {D : va_G} {ca : Nat → ClassId} {adC adR : Nat → Nat} {b L q k : Nat} {xs : Nat → Int32} (hL : L ≤ 3072) (hk : k + 6 ≤ L) (XC : CX p s mm #[Value.ref b] meth c code 7 RL D (cca ca) adC (fun z : Nat => s.heap.size ≤ z)) (XR : CX p s mm #[Value.ref b] meth c code 7 RL D (rca ca) adR (fun z : Nat => s.heap.size ≤ z)) (hX : va_X b L xs s s.heap) (hbl : b < s.heap.size) (hJ : DJ ca adC adR q) {Inv : Mem → Mem → Prop} {N : Nat} (hop : OP29 Inv N) (kk : ∀ (mC mR : Mem) (o : Nat → Int64) (H : Heap) (locs : List Loc) (ls : Array Slot), Inv mC mR → IW D (cca ca) adC (fun z : Nat => s.heap.size ≤ z) s mC H locs → va_P D clsL (wl (rca ca) adR mR) H → va_P D clsL (oC ca q o) H → lv_has ls 7 [(0, .ref b), (1, .ref (adC 0)), (2, .ref (adR 99)), (3, .ref q), (4, .int (nI k))] → W p l e room_1 s mm #[Value.ref b] below meth c H locs (144 + k + 1) (5739 + k + 6) (lw_Z below #[Value.ref b] s) (F0 mm 1538 ls [])) (mC mR : Mem) (o : Nat → Int64) (H : Heap) (locs : List Loc) (ls : Array Slot) (hC : IW D (cca ca) adC (fun z : Nat => s.heap.size ≤ z) s mC H locs) (hR : va_P D clsL (wl (rca ca) adR mR) H) (hO : va_P D clsL (oC ca q o) H) (hl : lv_has ls 7 [(0, .ref b), (1, .ref (adC 0)), (2, .ref (adR 99)), (3, .ref q), (4, .int (nI k))]) (hInv : Inv mC mR) : W p l e room_1 s mm #[Value.ref b] below meth c H locs (144 + k) (5739 + k) (lw_Z below #[Value.ref b] s) (F0 mm 1314 ls []) := by
  have hx := XC.1
  have hb := XC.2.1
  have hbA : ¬ (fun z : Nat => s.heap.size ≤ z) b := Nat.not_le.mpr hbl
  have hf : (144 + k) + 0 ≤ room_1.cells ∧ (5739 + k) + 0 ≤ room_1.slots := ⟨(show 144 + k + 0 ≤ 601024 by omega), (show 5739 + k + 0 ≤ 7293034 by omega)⟩
  have hin1 : vp_in (nI k + (1 : Int32)) L := by
    rw [show (1 : Int32) = nI 1 from rfl, nI_add]
    exact vp_in_nI (by omega) (by omega)
  obtain ⟨r, mC2, mR2, h1, h2, hInv⟩ := hop mC mR (xs (nI k + (1 : Int32)).toNatClampNeg) hInv
  refine lv_aload_n hx hb dL_law_1314 rfl (lv_at hl 1 rfl) ?_
  refine lv_aload_n hx hb dL_law_1315 rfl (lv_at hl 0 rfl) ?_
  refine lv_iload hx hb dL_law_1316 (lv_at hl 4 rfl) ?_
  refine lv_iconst (v := 1) hx hb dL_law_1318 (by decide) ?_
  refine lv_iadd hx hb dL_law_1319 ?_
  refine va_sld hx hb hX hbl hbA hC.2 hin1 dL_law_1320 ?_
  refine backIf XC hC (F := fun H => va_P D clsL (wl (rca ca) adR mR) H ∧ va_P D clsL (oC ca q o) H) (fun H1 hk1 => ⟨wl_kF hR hJ.1 hk1, oC_kF hO hJ.2.1 hk1⟩) (runVt XC hC (ctX11_borne N (xs (nI k + (1 : Int32)).toNatClampNeg) (HNc_c ca) mC (r, mC2) h1 _) mdL_151 (la_0 (HNc_c ca)) rfl ⟨rfl, rfl⟩ ⟨Nat.le_of_ble_eq_true rfl, Nat.le_of_ble_eq_true rfl⟩ rfl hl.1 rfl (Nat.le_of_ble_eq_true rfl) dL_law_1321 hf) (fun H locs hC hF => ?_)
  obtain ⟨hR, hO⟩ := hF
  refine lv_aload_n hx hb dL_law_1324 rfl (lv_at hl 2 rfl) ?_
  refine lv_aload_n hx hb dL_law_1325 rfl (lv_at hl 0 rfl) ?_
  refine lv_iload hx hb dL_law_1326 (lv_at hl 4 rfl) ?_
  refine lv_iconst (v := 1) hx hb dL_law_1328 (by decide) ?_
  refine lv_iadd hx hb dL_law_1329 ?_
  refine va_sld hx hb hX hbl hbA hC.2 hin1 dL_law_1330 ?_
  have hRI : IW D (rca ca) adR (fun z : Nat => s.heap.size ≤ z) s mR H locs := ⟨hR, hC.2⟩
  refine backIf XR hRI (F := fun H => va_P D clsL (wl (cca ca) adC mC2) H ∧ va_P D clsL (oC ca q o) H) (fun H1 hk1 => ⟨wl_kF hC.1 (fun i j hi hj e => hJ.1 j i hj hi e.symm) hk1, oC_kF hO hJ.2.2 hk1⟩) (runVt XR hRI (ctX12_borne N (xs (nI k + (1 : Int32)).toNatClampNeg) (HNr_r ca) mR (r, mR2) h2 _) mdL_154 (la_99 (HNr_r ca)) rfl ⟨rfl, rfl⟩ ⟨Nat.le_of_ble_eq_true rfl, Nat.le_of_ble_eq_true rfl⟩ rfl hl.1 rfl (Nat.le_of_ble_eq_true rfl) dL_law_1331 hf) (fun H locs hRI hF => ?_)
  obtain ⟨hC, hO⟩ := hF
  refine lv_icmp_eq (tgt := 1538) hx hb dL_law_1334 (by decide) (fun _ => ?_) (fun cq => absurd rfl cq)
  refine W.widen (k := 144 + k + 1) (n := 5739 + k + 6) (by omega) (by omega) ?_
  exact kk mC2 mR2 o H locs ls hInv ⟨hC, hRI.2⟩ hRI.1 hO hl
set_option maxHeartbeats 4000000 in
set_option maxRecDepth 100000 in
theorem law30 {p : Program} {l : Launch} {e : Env} {s : State} {mm : MethodId} {below : List Frame} {meth : Method} {c : Code} {D : va_G} {ca : Nat → ClassId} {adC adR : Nat → Nat} {b L q k : Nat} {xs : Nat → Int32} (hL : L ≤ 3072) (hk : k + 6 ≤ L) (XC : CX p s mm #[Value.ref b] meth c code 7 RL D (cca ca) adC (fun z : Nat => s.heap.size ≤ z)) (XR : CX p s mm #[Value.ref b] meth c code 7 RL D (rca ca) adR (fun z : Nat => s.heap.size ≤ z)) (hX : va_X b L xs s s.heap) (hbl : b < s.heap.size) (hJ : DJ ca adC adR q) {Inv : Mem → Mem → Prop} {N : Nat} (hop : OP30 Inv N) (kk : ∀ (mC mR : Mem) (o : Nat → Int64) (H : Heap) (locs : List Loc) (ls : Array Slot), Inv mC mR → IW D (cca ca) adC (fun z : Nat => s.heap.size ≤ z) s mC H locs → va_P D clsL (wl (rca ca) adR mR) H → va_P D clsL (oC ca q o) H → lv_has ls 7 [(0, .ref b), (1, .ref (adC 0)), (2, .ref (adR 99)), (3, .ref q), (4, .int (nI k))] → W p l e room_1 s mm #[Value.ref b] below meth c H locs (144 + k + 1) (5739 + k + 6) (lw_Z below #[Value.ref b] s) (F0 mm 1538 ls [])) (mC mR : Mem) (o : Nat → Int64) (H : Heap) (locs : List Loc) (ls : Array Slot) (hC : IW D (cca ca) adC (fun z : Nat => s.heap.size ≤ z) s mC H locs) (hR : va_P D clsL (wl (rca ca) adR mR) H) (hO : va_P D clsL (oC ca q o) H) (hl : lv_has ls 7 [(0, .ref b), (1, .ref (adC 0)), (2, .ref (adR 99)), (3, .ref q), (4, .int (nI k))]) (hInv : Inv mC mR) : W p l e room_1 s mm #[Value.ref b] below meth c H locs (144 + k) (5739 + k) (lw_Z below #[Value.ref b] s) (F0 mm 1339 ls []) := by
  have hx := XC.1
  have hb := XC.2.1
  have hbA : ¬ (fun z : Nat => s.heap.size ≤ z) b := Nat.not_le.mpr hbl
  have hf : (144 + k) + 0 ≤ room_1.cells ∧ (5739 + k) + 0 ≤ room_1.slots := ⟨(show 144 + k + 0 ≤ 601024 by omega), (show 5739 + k + 0 ≤ 7293034 by omega)⟩
  have hin1 : vp_in (nI k + (1 : Int32)) L := by
    rw [show (1 : Int32) = nI 1 from rfl, nI_add]
    exact vp_in_nI (by omega) (by omega)
  have hin2 : vp_in (nI k + (2 : Int32)) L := by
    rw [show (2 : Int32) = nI 2 from rfl, nI_add]
    exact vp_in_nI (by omega) (by omega)
  obtain ⟨r, mC2, mR2, h1, h2, hInv⟩ := hop mC mR (xs (nI k + (1 : Int32)).toNatClampNeg) (xs (nI k + (2 : Int32)).toNatClampNeg) hInv
  refine lv_aload_n hx hb dL_law_1339 rfl (lv_at hl 1 rfl) ?_
  refine lv_aload_n hx hb dL_law_1340 rfl (lv_at hl 0 rfl) ?_
  refine lv_iload hx hb dL_law_1341 (lv_at hl 4 rfl) ?_
  refine lv_iconst (v := 1) hx hb dL_law_1343 (by decide) ?_
  refine lv_iadd hx hb dL_law_1344 ?_
  refine va_sld hx hb hX hbl hbA hC.2 hin1 dL_law_1345 ?_
  refine lv_aload_n hx hb dL_law_1346 rfl (lv_at hl 0 rfl) ?_
  refine lv_iload hx hb dL_law_1347 (lv_at hl 4 rfl) ?_
  refine lv_iconst (v := 2) hx hb dL_law_1349 (by decide) ?_
  refine lv_iadd hx hb dL_law_1350 ?_
  refine va_sld hx hb hX hbl hbA hC.2 hin2 dL_law_1351 ?_
  refine backIf XC hC (F := fun H => va_P D clsL (wl (rca ca) adR mR) H ∧ va_P D clsL (oC ca q o) H) (fun H1 hk1 => ⟨wl_kF hR hJ.1 hk1, oC_kF hO hJ.2.1 hk1⟩) (runVt XC hC (ctX11_ask N (xs (nI k + (1 : Int32)).toNatClampNeg) (xs (nI k + (2 : Int32)).toNatClampNeg) (HNc_c ca) mC (r, mC2) h1 _) mdL_155 (la_0 (HNc_c ca)) rfl ⟨rfl, rfl⟩ ⟨Nat.le_of_ble_eq_true rfl, Nat.le_of_ble_eq_true rfl⟩ rfl hl.1 rfl (Nat.le_of_ble_eq_true rfl) dL_law_1352 hf) (fun H locs hC hF => ?_)
  obtain ⟨hR, hO⟩ := hF
  refine lv_aload_n hx hb dL_law_1355 rfl (lv_at hl 2 rfl) ?_
  refine lv_aload_n hx hb dL_law_1356 rfl (lv_at hl 0 rfl) ?_
  refine lv_iload hx hb dL_law_1357 (lv_at hl 4 rfl) ?_
  refine lv_iconst (v := 1) hx hb dL_law_1359 (by decide) ?_
  refine lv_iadd hx hb dL_law_1360 ?_
  refine va_sld hx hb hX hbl hbA hC.2 hin1 dL_law_1361 ?_
  refine lv_aload_n hx hb dL_law_1362 rfl (lv_at hl 0 rfl) ?_
  refine lv_iload hx hb dL_law_1363 (lv_at hl 4 rfl) ?_
  refine lv_iconst (v := 2) hx hb dL_law_1365 (by decide) ?_
  refine lv_iadd hx hb dL_law_1366 ?_
  refine va_sld hx hb hX hbl hbA hC.2 hin2 dL_law_1367 ?_
  have hRI : IW D (rca ca) adR (fun z : Nat => s.heap.size ≤ z) s mR H locs := ⟨hR, hC.2⟩
  refine backIf XR hRI (F := fun H => va_P D clsL (wl (cca ca) adC mC2) H ∧ va_P D clsL (oC ca q o) H) (fun H1 hk1 => ⟨wl_kF hC.1 (fun i j hi hj e => hJ.1 j i hj hi e.symm) hk1, oC_kF hO hJ.2.2 hk1⟩) (runVt XR hRI (ctX12_ask N (xs (nI k + (1 : Int32)).toNatClampNeg) (xs (nI k + (2 : Int32)).toNatClampNeg) (HNr_r ca) mR (r, mR2) h2 _) mdL_158 (la_99 (HNr_r ca)) rfl ⟨rfl, rfl⟩ ⟨Nat.le_of_ble_eq_true rfl, Nat.le_of_ble_eq_true rfl⟩ rfl hl.1 rfl (Nat.le_of_ble_eq_true rfl) dL_law_1368 hf) (fun H locs hRI hF => ?_)
  obtain ⟨hC, hO⟩ := hF
  refine lv_icmp_eq (tgt := 1538) hx hb dL_law_1371 (by decide) (fun _ => ?_) (fun cq => absurd rfl cq)
  refine W.widen (k := 144 + k + 1) (n := 5739 + k + 6) (by omega) (by omega) ?_
  exact kk mC2 mR2 o H locs ls hInv ⟨hC, hRI.2⟩ hRI.1 hO hl
set_option maxHeartbeats 4000000 in
set_option maxRecDepth 100000 in
theorem law31 {p : Program} {l : Launch} {e : Env} {s : State} {mm : MethodId} {below : List Frame} {meth : Method} {c : Code} {D : va_G} {ca : Nat → ClassId} {adC adR : Nat → Nat} {b L q k : Nat} {xs : Nat → Int32} (hL : L ≤ 3072) (hk : k + 6 ≤ L) (XC : CX p s mm #[Value.ref b] meth c code 7 RL D (cca ca) adC (fun z : Nat => s.heap.size ≤ z)) (XR : CX p s mm #[Value.ref b] meth c code 7 RL D (rca ca) adR (fun z : Nat => s.heap.size ≤ z)) (hX : va_X b L xs s s.heap) (hbl : b < s.heap.size) (hJ : DJ ca adC adR q) {Inv : Mem → Mem → Prop} {N : Nat} (hop : OP31 Inv N) (kk : ∀ (mC mR : Mem) (o : Nat → Int64) (H : Heap) (locs : List Loc) (ls : Array Slot), Inv mC mR → IW D (cca ca) adC (fun z : Nat => s.heap.size ≤ z) s mC H locs → va_P D clsL (wl (rca ca) adR mR) H → va_P D clsL (oC ca q o) H → lv_has ls 7 [(0, .ref b), (1, .ref (adC 0)), (2, .ref (adR 99)), (3, .ref q), (4, .int (nI k))] → W p l e room_1 s mm #[Value.ref b] below meth c H locs (144 + k + 1) (5739 + k + 6) (lw_Z below #[Value.ref b] s) (F0 mm 1538 ls [])) (mC mR : Mem) (o : Nat → Int64) (H : Heap) (locs : List Loc) (ls : Array Slot) (hC : IW D (cca ca) adC (fun z : Nat => s.heap.size ≤ z) s mC H locs) (hR : va_P D clsL (wl (rca ca) adR mR) H) (hO : va_P D clsL (oC ca q o) H) (hl : lv_has ls 7 [(0, .ref b), (1, .ref (adC 0)), (2, .ref (adR 99)), (3, .ref q), (4, .int (nI k))]) (hInv : Inv mC mR) : W p l e room_1 s mm #[Value.ref b] below meth c H locs (144 + k) (5739 + k) (lw_Z below #[Value.ref b] s) (F0 mm 1376 ls []) := by
  have hx := XC.1
  have hb := XC.2.1
  have hbA : ¬ (fun z : Nat => s.heap.size ≤ z) b := Nat.not_le.mpr hbl
  have hf : (144 + k) + 0 ≤ room_1.cells ∧ (5739 + k) + 0 ≤ room_1.slots := ⟨(show 144 + k + 0 ≤ 601024 by omega), (show 5739 + k + 0 ≤ 7293034 by omega)⟩
  have hin1 : vp_in (nI k + (1 : Int32)) L := by
    rw [show (1 : Int32) = nI 1 from rfl, nI_add]
    exact vp_in_nI (by omega) (by omega)
  have hin2 : vp_in (nI k + (2 : Int32)) L := by
    rw [show (2 : Int32) = nI 2 from rfl, nI_add]
    exact vp_in_nI (by omega) (by omega)
  have hin3 : vp_in (nI k + (3 : Int32)) L := by
    rw [show (3 : Int32) = nI 3 from rfl, nI_add]
    exact vp_in_nI (by omega) (by omega)
  obtain ⟨r, mC2, mR2, h1, h2, hInv⟩ := hop mC mR (xs (nI k + (1 : Int32)).toNatClampNeg) (xs (nI k + (2 : Int32)).toNatClampNeg) (xs (nI k + (3 : Int32)).toNatClampNeg) hInv
  refine lv_aload_n hx hb dL_law_1376 rfl (lv_at hl 1 rfl) ?_
  refine lv_aload_n hx hb dL_law_1377 rfl (lv_at hl 0 rfl) ?_
  refine lv_iload hx hb dL_law_1378 (lv_at hl 4 rfl) ?_
  refine lv_iconst (v := 1) hx hb dL_law_1380 (by decide) ?_
  refine lv_iadd hx hb dL_law_1381 ?_
  refine va_sld hx hb hX hbl hbA hC.2 hin1 dL_law_1382 ?_
  refine lv_aload_n hx hb dL_law_1383 rfl (lv_at hl 0 rfl) ?_
  refine lv_iload hx hb dL_law_1384 (lv_at hl 4 rfl) ?_
  refine lv_iconst (v := 2) hx hb dL_law_1386 (by decide) ?_
  refine lv_iadd hx hb dL_law_1387 ?_
  refine va_sld hx hb hX hbl hbA hC.2 hin2 dL_law_1388 ?_
  refine lv_aload_n hx hb dL_law_1389 rfl (lv_at hl 0 rfl) ?_
  refine lv_iload hx hb dL_law_1390 (lv_at hl 4 rfl) ?_
  refine lv_iconst (v := 3) hx hb dL_law_1392 (by decide) ?_
  refine lv_iadd hx hb dL_law_1393 ?_
  refine va_sld hx hb hX hbl hbA hC.2 hin3 dL_law_1394 ?_
  refine backIf XC hC (F := fun H => va_P D clsL (wl (rca ca) adR mR) H ∧ va_P D clsL (oC ca q o) H) (fun H1 hk1 => ⟨wl_kF hR hJ.1 hk1, oC_kF hO hJ.2.1 hk1⟩) (runVt XC hC (ctX11_chance N (xs (nI k + (1 : Int32)).toNatClampNeg) (xs (nI k + (2 : Int32)).toNatClampNeg) (xs (nI k + (3 : Int32)).toNatClampNeg) (HNc_c ca) mC (r, mC2) h1 _) mdL_159 (la_0 (HNc_c ca)) rfl ⟨rfl, rfl⟩ ⟨Nat.le_of_ble_eq_true rfl, Nat.le_of_ble_eq_true rfl⟩ rfl hl.1 rfl (Nat.le_of_ble_eq_true rfl) dL_law_1395 hf) (fun H locs hC hF => ?_)
  obtain ⟨hR, hO⟩ := hF
  refine lv_aload_n hx hb dL_law_1398 rfl (lv_at hl 2 rfl) ?_
  refine lv_aload_n hx hb dL_law_1399 rfl (lv_at hl 0 rfl) ?_
  refine lv_iload hx hb dL_law_1400 (lv_at hl 4 rfl) ?_
  refine lv_iconst (v := 1) hx hb dL_law_1402 (by decide) ?_
  refine lv_iadd hx hb dL_law_1403 ?_
  refine va_sld hx hb hX hbl hbA hC.2 hin1 dL_law_1404 ?_
  refine lv_aload_n hx hb dL_law_1405 rfl (lv_at hl 0 rfl) ?_
  refine lv_iload hx hb dL_law_1406 (lv_at hl 4 rfl) ?_
  refine lv_iconst (v := 2) hx hb dL_law_1408 (by decide) ?_
  refine lv_iadd hx hb dL_law_1409 ?_
  refine va_sld hx hb hX hbl hbA hC.2 hin2 dL_law_1410 ?_
  refine lv_aload_n hx hb dL_law_1411 rfl (lv_at hl 0 rfl) ?_
  refine lv_iload hx hb dL_law_1412 (lv_at hl 4 rfl) ?_
  refine lv_iconst (v := 3) hx hb dL_law_1414 (by decide) ?_
  refine lv_iadd hx hb dL_law_1415 ?_
  refine va_sld hx hb hX hbl hbA hC.2 hin3 dL_law_1416 ?_
  have hRI : IW D (rca ca) adR (fun z : Nat => s.heap.size ≤ z) s mR H locs := ⟨hR, hC.2⟩
  refine backIf XR hRI (F := fun H => va_P D clsL (wl (cca ca) adC mC2) H ∧ va_P D clsL (oC ca q o) H) (fun H1 hk1 => ⟨wl_kF hC.1 (fun i j hi hj e => hJ.1 j i hj hi e.symm) hk1, oC_kF hO hJ.2.2 hk1⟩) (runVt XR hRI (ctX12_chance N (xs (nI k + (1 : Int32)).toNatClampNeg) (xs (nI k + (2 : Int32)).toNatClampNeg) (xs (nI k + (3 : Int32)).toNatClampNeg) (HNr_r ca) mR (r, mR2) h2 _) mdL_162 (la_99 (HNr_r ca)) rfl ⟨rfl, rfl⟩ ⟨Nat.le_of_ble_eq_true rfl, Nat.le_of_ble_eq_true rfl⟩ rfl hl.1 rfl (Nat.le_of_ble_eq_true rfl) dL_law_1417 hf) (fun H locs hRI hF => ?_)
  obtain ⟨hC, hO⟩ := hF
  refine lv_icmp_eq (tgt := 1538) hx hb dL_law_1420 (by decide) (fun _ => ?_) (fun cq => absurd rfl cq)
  refine W.widen (k := 144 + k + 1) (n := 5739 + k + 6) (by omega) (by omega) ?_
  exact kk mC2 mR2 o H locs ls hInv ⟨hC, hRI.2⟩ hRI.1 hO hl
set_option maxHeartbeats 4000000 in
set_option maxRecDepth 100000 in
theorem law32 {p : Program} {l : Launch} {e : Env} {s : State} {mm : MethodId} {below : List Frame} {meth : Method} {c : Code} {D : va_G} {ca : Nat → ClassId} {adC adR : Nat → Nat} {b L q k : Nat} {xs : Nat → Int32} (hL : L ≤ 3072) (hk : k + 6 ≤ L) (XC : CX p s mm #[Value.ref b] meth c code 7 RL D (cca ca) adC (fun z : Nat => s.heap.size ≤ z)) (XR : CX p s mm #[Value.ref b] meth c code 7 RL D (rca ca) adR (fun z : Nat => s.heap.size ≤ z)) (hX : va_X b L xs s s.heap) (hbl : b < s.heap.size) (hJ : DJ ca adC adR q) {Inv : Mem → Mem → Prop} {N : Nat} (hop : OP32 Inv N) (kk : ∀ (mC mR : Mem) (o : Nat → Int64) (H : Heap) (locs : List Loc) (ls : Array Slot), Inv mC mR → IW D (cca ca) adC (fun z : Nat => s.heap.size ≤ z) s mC H locs → va_P D clsL (wl (rca ca) adR mR) H → va_P D clsL (oC ca q o) H → lv_has ls 7 [(0, .ref b), (1, .ref (adC 0)), (2, .ref (adR 99)), (3, .ref q), (4, .int (nI k))] → W p l e room_1 s mm #[Value.ref b] below meth c H locs (144 + k + 1) (5739 + k + 6) (lw_Z below #[Value.ref b] s) (F0 mm 1538 ls [])) (mC mR : Mem) (o : Nat → Int64) (H : Heap) (locs : List Loc) (ls : Array Slot) (hC : IW D (cca ca) adC (fun z : Nat => s.heap.size ≤ z) s mC H locs) (hR : va_P D clsL (wl (rca ca) adR mR) H) (hO : va_P D clsL (oC ca q o) H) (hl : lv_has ls 7 [(0, .ref b), (1, .ref (adC 0)), (2, .ref (adR 99)), (3, .ref q), (4, .int (nI k))]) (hInv : Inv mC mR) : W p l e room_1 s mm #[Value.ref b] below meth c H locs (144 + k) (5739 + k) (lw_Z below #[Value.ref b] s) (F0 mm 1425 ls []) := by
  have hx := XC.1
  have hb := XC.2.1
  have hbA : ¬ (fun z : Nat => s.heap.size ≤ z) b := Nat.not_le.mpr hbl
  have hf : (144 + k) + 0 ≤ room_1.cells ∧ (5739 + k) + 0 ≤ room_1.slots := ⟨(show 144 + k + 0 ≤ 601024 by omega), (show 5739 + k + 0 ≤ 7293034 by omega)⟩
  have hin1 : vp_in (nI k + (1 : Int32)) L := by
    rw [show (1 : Int32) = nI 1 from rfl, nI_add]
    exact vp_in_nI (by omega) (by omega)
  have hin2 : vp_in (nI k + (2 : Int32)) L := by
    rw [show (2 : Int32) = nI 2 from rfl, nI_add]
    exact vp_in_nI (by omega) (by omega)
  have hin3 : vp_in (nI k + (3 : Int32)) L := by
    rw [show (3 : Int32) = nI 3 from rfl, nI_add]
    exact vp_in_nI (by omega) (by omega)
  obtain ⟨r, mC2, mR2, h1, h2, hInv⟩ := hop mC mR (xs (nI k + (1 : Int32)).toNatClampNeg) (xs (nI k + (2 : Int32)).toNatClampNeg) (xs (nI k + (3 : Int32)).toNatClampNeg) hInv
  refine lv_aload_n hx hb dL_law_1425 rfl (lv_at hl 1 rfl) ?_
  refine lv_aload_n hx hb dL_law_1426 rfl (lv_at hl 0 rfl) ?_
  refine lv_iload hx hb dL_law_1427 (lv_at hl 4 rfl) ?_
  refine lv_iconst (v := 1) hx hb dL_law_1429 (by decide) ?_
  refine lv_iadd hx hb dL_law_1430 ?_
  refine va_sld hx hb hX hbl hbA hC.2 hin1 dL_law_1431 ?_
  refine lv_aload_n hx hb dL_law_1432 rfl (lv_at hl 0 rfl) ?_
  refine lv_iload hx hb dL_law_1433 (lv_at hl 4 rfl) ?_
  refine lv_iconst (v := 2) hx hb dL_law_1435 (by decide) ?_
  refine lv_iadd hx hb dL_law_1436 ?_
  refine va_sld hx hb hX hbl hbA hC.2 hin2 dL_law_1437 ?_
  refine lv_aload_n hx hb dL_law_1438 rfl (lv_at hl 0 rfl) ?_
  refine lv_iload hx hb dL_law_1439 (lv_at hl 4 rfl) ?_
  refine lv_iconst (v := 3) hx hb dL_law_1441 (by decide) ?_
  refine lv_iadd hx hb dL_law_1442 ?_
  refine va_sld hx hb hX hbl hbA hC.2 hin3 dL_law_1443 ?_
  refine backIf XC hC (F := fun H => va_P D clsL (wl (rca ca) adR mR) H ∧ va_P D clsL (oC ca q o) H) (fun H1 hk1 => ⟨wl_kF hR hJ.1 hk1, oC_kF hO hJ.2.1 hk1⟩) (runVt XC hC (ctX11_tried N (xs (nI k + (1 : Int32)).toNatClampNeg) (xs (nI k + (2 : Int32)).toNatClampNeg) (xs (nI k + (3 : Int32)).toNatClampNeg) (HNc_c ca) mC (r, mC2) h1 _) mdL_163 (la_0 (HNc_c ca)) rfl ⟨rfl, rfl⟩ ⟨Nat.le_of_ble_eq_true rfl, Nat.le_of_ble_eq_true rfl⟩ rfl hl.1 rfl (Nat.le_of_ble_eq_true rfl) dL_law_1444 hf) (fun H locs hC hF => ?_)
  obtain ⟨hR, hO⟩ := hF
  refine lv_aload_n hx hb dL_law_1447 rfl (lv_at hl 2 rfl) ?_
  refine lv_aload_n hx hb dL_law_1448 rfl (lv_at hl 0 rfl) ?_
  refine lv_iload hx hb dL_law_1449 (lv_at hl 4 rfl) ?_
  refine lv_iconst (v := 1) hx hb dL_law_1451 (by decide) ?_
  refine lv_iadd hx hb dL_law_1452 ?_
  refine va_sld hx hb hX hbl hbA hC.2 hin1 dL_law_1453 ?_
  refine lv_aload_n hx hb dL_law_1454 rfl (lv_at hl 0 rfl) ?_
  refine lv_iload hx hb dL_law_1455 (lv_at hl 4 rfl) ?_
  refine lv_iconst (v := 2) hx hb dL_law_1457 (by decide) ?_
  refine lv_iadd hx hb dL_law_1458 ?_
  refine va_sld hx hb hX hbl hbA hC.2 hin2 dL_law_1459 ?_
  refine lv_aload_n hx hb dL_law_1460 rfl (lv_at hl 0 rfl) ?_
  refine lv_iload hx hb dL_law_1461 (lv_at hl 4 rfl) ?_
  refine lv_iconst (v := 3) hx hb dL_law_1463 (by decide) ?_
  refine lv_iadd hx hb dL_law_1464 ?_
  refine va_sld hx hb hX hbl hbA hC.2 hin3 dL_law_1465 ?_
  have hRI : IW D (rca ca) adR (fun z : Nat => s.heap.size ≤ z) s mR H locs := ⟨hR, hC.2⟩
  refine backIf XR hRI (F := fun H => va_P D clsL (wl (cca ca) adC mC2) H ∧ va_P D clsL (oC ca q o) H) (fun H1 hk1 => ⟨wl_kF hC.1 (fun i j hi hj e => hJ.1 j i hj hi e.symm) hk1, oC_kF hO hJ.2.2 hk1⟩) (runVt XR hRI (ctX12_tried N (xs (nI k + (1 : Int32)).toNatClampNeg) (xs (nI k + (2 : Int32)).toNatClampNeg) (xs (nI k + (3 : Int32)).toNatClampNeg) (HNr_r ca) mR (r, mR2) h2 _) mdL_166 (la_99 (HNr_r ca)) rfl ⟨rfl, rfl⟩ ⟨Nat.le_of_ble_eq_true rfl, Nat.le_of_ble_eq_true rfl⟩ rfl hl.1 rfl (Nat.le_of_ble_eq_true rfl) dL_law_1466 hf) (fun H locs hRI hF => ?_)
  obtain ⟨hC, hO⟩ := hF
  refine lv_icmp_eq (tgt := 1538) hx hb dL_law_1469 (by decide) (fun _ => ?_) (fun cq => absurd rfl cq)
  refine W.widen (k := 144 + k + 1) (n := 5739 + k + 6) (by omega) (by omega) ?_
  exact kk mC2 mR2 o H locs ls hInv ⟨hC, hRI.2⟩ hRI.1 hO hl
set_option maxHeartbeats 4000000 in
set_option maxRecDepth 100000 in
theorem law33 {p : Program} {l : Launch} {e : Env} {s : State} {mm : MethodId} {below : List Frame} {meth : Method} {c : Code} {D : va_G} {ca : Nat → ClassId} {adC adR : Nat → Nat} {b L q k : Nat} {xs : Nat → Int32} (hL : L ≤ 3072) (hk : k + 6 ≤ L) (XC : CX p s mm #[Value.ref b] meth c code 7 RL D (cca ca) adC (fun z : Nat => s.heap.size ≤ z)) (XR : CX p s mm #[Value.ref b] meth c code 7 RL D (rca ca) adR (fun z : Nat => s.heap.size ≤ z)) (hX : va_X b L xs s s.heap) (hbl : b < s.heap.size) (hJ : DJ ca adC adR q) {Inv : Mem → Mem → Prop} {N : Nat} (hop : OP33 Inv N) (kk : ∀ (mC mR : Mem) (o : Nat → Int64) (H : Heap) (locs : List Loc) (ls : Array Slot), Inv mC mR → IW D (cca ca) adC (fun z : Nat => s.heap.size ≤ z) s mC H locs → va_P D clsL (wl (rca ca) adR mR) H → va_P D clsL (oC ca q o) H → lv_has ls 7 [(0, .ref b), (1, .ref (adC 0)), (2, .ref (adR 99)), (3, .ref q), (4, .int (nI k))] → W p l e room_1 s mm #[Value.ref b] below meth c H locs (144 + k + 1) (5739 + k + 6) (lw_Z below #[Value.ref b] s) (F0 mm 1538 ls [])) (mC mR : Mem) (o : Nat → Int64) (H : Heap) (locs : List Loc) (ls : Array Slot) (hC : IW D (cca ca) adC (fun z : Nat => s.heap.size ≤ z) s mC H locs) (hR : va_P D clsL (wl (rca ca) adR mR) H) (hO : va_P D clsL (oC ca q o) H) (hl : lv_has ls 7 [(0, .ref b), (1, .ref (adC 0)), (2, .ref (adR 99)), (3, .ref q), (4, .int (nI k))]) (hInv : Inv mC mR) : W p l e room_1 s mm #[Value.ref b] below meth c H locs (144 + k) (5739 + k) (lw_Z below #[Value.ref b] s) (F0 mm 1474 ls []) := by
  have hx := XC.1
  have hb := XC.2.1
  have hbA : ¬ (fun z : Nat => s.heap.size ≤ z) b := Nat.not_le.mpr hbl
  have hf : (144 + k) + 0 ≤ room_1.cells ∧ (5739 + k) + 0 ≤ room_1.slots := ⟨(show 144 + k + 0 ≤ 601024 by omega), (show 5739 + k + 0 ≤ 7293034 by omega)⟩
  obtain ⟨r, mC2, mR2, h1, h2, hInv⟩ := hop mC mR  hInv
  refine lv_aload_n hx hb dL_law_1474 rfl (lv_at hl 1 rfl) ?_
  refine backIf XC hC (F := fun H => va_P D clsL (wl (rca ca) adR mR) H ∧ va_P D clsL (oC ca q o) H) (fun H1 hk1 => ⟨wl_kF hR hJ.1 hk1, oC_kF hO hJ.2.1 hk1⟩) (runVt XC hC (ctX11_undo N (HNc_c ca) mC (r, mC2) h1 _) mdL_167 (la_0 (HNc_c ca)) rfl ⟨rfl, rfl⟩ ⟨Nat.le_of_ble_eq_true rfl, Nat.le_of_ble_eq_true rfl⟩ rfl hl.1 rfl (Nat.le_of_ble_eq_true rfl) dL_law_1475 hf) (fun H locs hC hF => ?_)
  obtain ⟨hR, hO⟩ := hF
  refine lv_aload_n hx hb dL_law_1478 rfl (lv_at hl 2 rfl) ?_
  have hRI : IW D (rca ca) adR (fun z : Nat => s.heap.size ≤ z) s mR H locs := ⟨hR, hC.2⟩
  refine backIf XR hRI (F := fun H => va_P D clsL (wl (cca ca) adC mC2) H ∧ va_P D clsL (oC ca q o) H) (fun H1 hk1 => ⟨wl_kF hC.1 (fun i j hi hj e => hJ.1 j i hj hi e.symm) hk1, oC_kF hO hJ.2.2 hk1⟩) (runVt XR hRI (ctX12_undo N (HNr_r ca) mR (r, mR2) h2 _) mdL_170 (la_99 (HNr_r ca)) rfl ⟨rfl, rfl⟩ ⟨Nat.le_of_ble_eq_true rfl, Nat.le_of_ble_eq_true rfl⟩ rfl hl.1 rfl (Nat.le_of_ble_eq_true rfl) dL_law_1479 hf) (fun H locs hRI hF => ?_)
  obtain ⟨hC, hO⟩ := hF
  refine lv_icmp_eq (tgt := 1538) hx hb dL_law_1482 (by decide) (fun _ => ?_) (fun cq => absurd rfl cq)
  refine W.widen (k := 144 + k + 1) (n := 5739 + k + 6) (by omega) (by omega) ?_
  exact kk mC2 mR2 o H locs ls hInv ⟨hC, hRI.2⟩ hRI.1 hO hl
set_option maxHeartbeats 4000000 in
set_option maxRecDepth 100000 in
theorem law34 {p : Program} {l : Launch} {e : Env} {s : State} {mm : MethodId} {below : List Frame} {meth : Method} {c : Code} {D : va_G} {ca : Nat → ClassId} {adC adR : Nat → Nat} {b L q k : Nat} {xs : Nat → Int32} (hL : L ≤ 3072) (hk : k + 6 ≤ L) (XC : CX p s mm #[Value.ref b] meth c code 7 RL D (cca ca) adC (fun z : Nat => s.heap.size ≤ z)) (XR : CX p s mm #[Value.ref b] meth c code 7 RL D (rca ca) adR (fun z : Nat => s.heap.size ≤ z)) (hX : va_X b L xs s s.heap) (hbl : b < s.heap.size) (hJ : DJ ca adC adR q) {Inv : Mem → Mem → Prop} {N : Nat} (hop : OP34 Inv N) (kk : ∀ (mC mR : Mem) (o : Nat → Int64) (H : Heap) (locs : List Loc) (ls : Array Slot), Inv mC mR → IW D (cca ca) adC (fun z : Nat => s.heap.size ≤ z) s mC H locs → va_P D clsL (wl (rca ca) adR mR) H → va_P D clsL (oC ca q o) H → lv_has ls 7 [(0, .ref b), (1, .ref (adC 0)), (2, .ref (adR 99)), (3, .ref q), (4, .int (nI k))] → W p l e room_1 s mm #[Value.ref b] below meth c H locs (144 + k + 1) (5739 + k + 6) (lw_Z below #[Value.ref b] s) (F0 mm 1538 ls [])) (mC mR : Mem) (o : Nat → Int64) (H : Heap) (locs : List Loc) (ls : Array Slot) (hC : IW D (cca ca) adC (fun z : Nat => s.heap.size ≤ z) s mC H locs) (hR : va_P D clsL (wl (rca ca) adR mR) H) (hO : va_P D clsL (oC ca q o) H) (hl : lv_has ls 7 [(0, .ref b), (1, .ref (adC 0)), (2, .ref (adR 99)), (3, .ref q), (4, .int (nI k))]) (hInv : Inv mC mR) : W p l e room_1 s mm #[Value.ref b] below meth c H locs (144 + k) (5739 + k) (lw_Z below #[Value.ref b] s) (F0 mm 1487 ls []) := by
  have hx := XC.1
  have hb := XC.2.1
  have hbA : ¬ (fun z : Nat => s.heap.size ≤ z) b := Nat.not_le.mpr hbl
  have hf : (144 + k) + 0 ≤ room_1.cells ∧ (5739 + k) + 0 ≤ room_1.slots := ⟨(show 144 + k + 0 ≤ 601024 by omega), (show 5739 + k + 0 ≤ 7293034 by omega)⟩
  obtain ⟨r, mC2, mR2, h1, h2, hInv⟩ := hop mC mR  hInv
  refine lv_aload_n hx hb dL_law_1487 rfl (lv_at hl 1 rfl) ?_
  refine backIf XC hC (F := fun H => va_P D clsL (wl (rca ca) adR mR) H ∧ va_P D clsL (oC ca q o) H) (fun H1 hk1 => ⟨wl_kF hR hJ.1 hk1, oC_kF hO hJ.2.1 hk1⟩) (runVt XC hC (ctX11_keep  (HNc_c ca) mC (r, mC2) h1 _) mdL_171 (la_0 (HNc_c ca)) rfl ⟨rfl, rfl⟩ ⟨Nat.le_of_ble_eq_true rfl, Nat.le_of_ble_eq_true rfl⟩ rfl hl.1 rfl (Nat.le_of_ble_eq_true rfl) dL_law_1488 hf) (fun H locs hC hF => ?_)
  obtain ⟨hR, hO⟩ := hF
  refine lv_aload_n hx hb dL_law_1491 rfl (lv_at hl 2 rfl) ?_
  have hRI : IW D (rca ca) adR (fun z : Nat => s.heap.size ≤ z) s mR H locs := ⟨hR, hC.2⟩
  refine backIf XR hRI (F := fun H => va_P D clsL (wl (cca ca) adC mC2) H ∧ va_P D clsL (oC ca q o) H) (fun H1 hk1 => ⟨wl_kF hC.1 (fun i j hi hj e => hJ.1 j i hj hi e.symm) hk1, oC_kF hO hJ.2.2 hk1⟩) (runVt XR hRI (ctX12_keep N (HNr_r ca) mR (r, mR2) h2 _) mdL_174 (la_99 (HNr_r ca)) rfl ⟨rfl, rfl⟩ ⟨Nat.le_of_ble_eq_true rfl, Nat.le_of_ble_eq_true rfl⟩ rfl hl.1 rfl (Nat.le_of_ble_eq_true rfl) dL_law_1492 hf) (fun H locs hRI hF => ?_)
  obtain ⟨hC, hO⟩ := hF
  refine lv_icmp_eq (tgt := 1538) hx hb dL_law_1495 (by decide) (fun _ => ?_) (fun cq => absurd rfl cq)
  refine W.widen (k := 144 + k + 1) (n := 5739 + k + 6) (by omega) (by omega) ?_
  exact kk mC2 mR2 o H locs ls hInv ⟨hC, hRI.2⟩ hRI.1 hO hl
set_option maxHeartbeats 4000000 in
set_option maxRecDepth 100000 in
theorem law35 {p : Program} {l : Launch} {e : Env} {s : State} {mm : MethodId} {below : List Frame} {meth : Method} {c : Code} {D : va_G} {ca : Nat → ClassId} {adC adR : Nat → Nat} {b L q k : Nat} {xs : Nat → Int32} (hL : L ≤ 3072) (hk : k + 6 ≤ L) (XC : CX p s mm #[Value.ref b] meth c code 7 RL D (cca ca) adC (fun z : Nat => s.heap.size ≤ z)) (XR : CX p s mm #[Value.ref b] meth c code 7 RL D (rca ca) adR (fun z : Nat => s.heap.size ≤ z)) (hX : va_X b L xs s s.heap) (hbl : b < s.heap.size) (hJ : DJ ca adC adR q) {Inv : Mem → Mem → Prop} {N : Nat} (hop : OP35 Inv N) (kk : ∀ (mC mR : Mem) (o : Nat → Int64) (H : Heap) (locs : List Loc) (ls : Array Slot), Inv mC mR → IW D (cca ca) adC (fun z : Nat => s.heap.size ≤ z) s mC H locs → va_P D clsL (wl (rca ca) adR mR) H → va_P D clsL (oC ca q o) H → lv_has ls 7 [(0, .ref b), (1, .ref (adC 0)), (2, .ref (adR 99)), (3, .ref q), (4, .int (nI k))] → W p l e room_1 s mm #[Value.ref b] below meth c H locs (144 + k + 1) (5739 + k + 6) (lw_Z below #[Value.ref b] s) (F0 mm 1538 ls [])) (mC mR : Mem) (o : Nat → Int64) (H : Heap) (locs : List Loc) (ls : Array Slot) (hC : IW D (cca ca) adC (fun z : Nat => s.heap.size ≤ z) s mC H locs) (hR : va_P D clsL (wl (rca ca) adR mR) H) (hO : va_P D clsL (oC ca q o) H) (hl : lv_has ls 7 [(0, .ref b), (1, .ref (adC 0)), (2, .ref (adR 99)), (3, .ref q), (4, .int (nI k))]) (hInv : Inv mC mR) : W p l e room_1 s mm #[Value.ref b] below meth c H locs (144 + k) (5739 + k) (lw_Z below #[Value.ref b] s) (F0 mm 1500 ls []) := by
  have hx := XC.1
  have hb := XC.2.1
  have hbA : ¬ (fun z : Nat => s.heap.size ≤ z) b := Nat.not_le.mpr hbl
  have hf : (144 + k) + 0 ≤ room_1.cells ∧ (5739 + k) + 0 ≤ room_1.slots := ⟨(show 144 + k + 0 ≤ 601024 by omega), (show 5739 + k + 0 ≤ 7293034 by omega)⟩
  obtain ⟨r, mC2, mR2, h1, h2, hInv⟩ := hop mC mR  hInv
  refine lv_aload_n hx hb dL_law_1500 rfl (lv_at hl 1 rfl) ?_
  refine backIf XC hC (F := fun H => va_P D clsL (wl (rca ca) adR mR) H ∧ va_P D clsL (oC ca q o) H) (fun H1 hk1 => ⟨wl_kF hR hJ.1 hk1, oC_kF hO hJ.2.1 hk1⟩) (runVt XC hC (ctX11_back  (HNc_c ca) mC (r, mC2) h1 _) mdL_175 (la_0 (HNc_c ca)) rfl ⟨rfl, rfl⟩ ⟨Nat.le_of_ble_eq_true rfl, Nat.le_of_ble_eq_true rfl⟩ rfl hl.1 rfl (Nat.le_of_ble_eq_true rfl) dL_law_1501 hf) (fun H locs hC hF => ?_)
  obtain ⟨hR, hO⟩ := hF
  refine lv_aload_n hx hb dL_law_1504 rfl (lv_at hl 2 rfl) ?_
  have hRI : IW D (rca ca) adR (fun z : Nat => s.heap.size ≤ z) s mR H locs := ⟨hR, hC.2⟩
  refine backIf XR hRI (F := fun H => va_P D clsL (wl (cca ca) adC mC2) H ∧ va_P D clsL (oC ca q o) H) (fun H1 hk1 => ⟨wl_kF hC.1 (fun i j hi hj e => hJ.1 j i hj hi e.symm) hk1, oC_kF hO hJ.2.2 hk1⟩) (runVt XR hRI (ctX12_back N (HNr_r ca) mR (r, mR2) h2 _) mdL_178 (la_99 (HNr_r ca)) rfl ⟨rfl, rfl⟩ ⟨Nat.le_of_ble_eq_true rfl, Nat.le_of_ble_eq_true rfl⟩ rfl hl.1 rfl (Nat.le_of_ble_eq_true rfl) dL_law_1505 hf) (fun H locs hRI hF => ?_)
  obtain ⟨hC, hO⟩ := hF
  refine lv_icmp_eq (tgt := 1538) hx hb dL_law_1508 (by decide) (fun _ => ?_) (fun cq => absurd rfl cq)
  refine W.widen (k := 144 + k + 1) (n := 5739 + k + 6) (by omega) (by omega) ?_
  exact kk mC2 mR2 o H locs ls hInv ⟨hC, hRI.2⟩ hRI.1 hO hl
set_option maxHeartbeats 4000000 in
set_option maxRecDepth 100000 in
theorem law36 {p : Program} {l : Launch} {e : Env} {s : State} {mm : MethodId} {below : List Frame} {meth : Method} {c : Code} {D : va_G} {ca : Nat → ClassId} {adC adR : Nat → Nat} {b L q k : Nat} {xs : Nat → Int32} (hL : L ≤ 3072) (hk : k + 6 ≤ L) (XC : CX p s mm #[Value.ref b] meth c code 7 RL D (cca ca) adC (fun z : Nat => s.heap.size ≤ z)) (XR : CX p s mm #[Value.ref b] meth c code 7 RL D (rca ca) adR (fun z : Nat => s.heap.size ≤ z)) (hX : va_X b L xs s s.heap) (hbl : b < s.heap.size) (hJ : DJ ca adC adR q) {Inv : Mem → Mem → Prop} {N : Nat} (hop : OP36 Inv N) (kk : ∀ (mC mR : Mem) (o : Nat → Int64) (H : Heap) (locs : List Loc) (ls : Array Slot), Inv mC mR → IW D (cca ca) adC (fun z : Nat => s.heap.size ≤ z) s mC H locs → va_P D clsL (wl (rca ca) adR mR) H → va_P D clsL (oC ca q o) H → lv_has ls 7 [(0, .ref b), (1, .ref (adC 0)), (2, .ref (adR 99)), (3, .ref q), (4, .int (nI k))] → W p l e room_1 s mm #[Value.ref b] below meth c H locs (144 + k + 1) (5739 + k + 6) (lw_Z below #[Value.ref b] s) (F0 mm 1538 ls [])) (mC mR : Mem) (o : Nat → Int64) (H : Heap) (locs : List Loc) (ls : Array Slot) (hC : IW D (cca ca) adC (fun z : Nat => s.heap.size ≤ z) s mC H locs) (hR : va_P D clsL (wl (rca ca) adR mR) H) (hO : va_P D clsL (oC ca q o) H) (hl : lv_has ls 7 [(0, .ref b), (1, .ref (adC 0)), (2, .ref (adR 99)), (3, .ref q), (4, .int (nI k))]) (hInv : Inv mC mR) : W p l e room_1 s mm #[Value.ref b] below meth c H locs (144 + k) (5739 + k) (lw_Z below #[Value.ref b] s) (F0 mm 1513 ls []) := by
  have hx := XC.1
  have hb := XC.2.1
  have hbA : ¬ (fun z : Nat => s.heap.size ≤ z) b := Nat.not_le.mpr hbl
  have hf : (144 + k) + 0 ≤ room_1.cells ∧ (5739 + k) + 0 ≤ room_1.slots := ⟨(show 144 + k + 0 ≤ 601024 by omega), (show 5739 + k + 0 ≤ 7293034 by omega)⟩
  have hin1 : vp_in (nI k + (1 : Int32)) L := by
    rw [show (1 : Int32) = nI 1 from rfl, nI_add]
    exact vp_in_nI (by omega) (by omega)
  obtain ⟨r, mR2, h1, h2, hInv⟩ := hop mC mR (xs (nI k + (1 : Int32)).toNatClampNeg) hInv
  refine lv_aload_n hx hb dL_law_1513 rfl (lv_at hl 1 rfl) ?_
  refine lv_aload_n hx hb dL_law_1514 rfl (lv_at hl 0 rfl) ?_
  refine lv_iload hx hb dL_law_1515 (lv_at hl 4 rfl) ?_
  refine lv_iconst (v := 1) hx hb dL_law_1517 (by decide) ?_
  refine lv_iadd hx hb dL_law_1518 ?_
  refine va_sld hx hb hX hbl hbA hC.2 hin1 dL_law_1519 ?_
  refine backIf XC hC (F := fun H => va_P D clsL (wl (rca ca) adR mR) H ∧ va_P D clsL (oC ca q o) H) (fun H1 hk1 => ⟨wl_kF hR hJ.1 hk1, oC_kF hO hJ.2.1 hk1⟩) (runVt XC hC (ctX11_count N (xs (nI k + (1 : Int32)).toNatClampNeg) (HNc_c ca) mC r h1 _) mdL_179 (la_0 (HNc_c ca)) rfl ⟨rfl, rfl⟩ ⟨Nat.le_of_ble_eq_true rfl, Nat.le_of_ble_eq_true rfl⟩ rfl hl.1 rfl (Nat.le_of_ble_eq_true rfl) dL_law_1520 hf) (fun H locs hC hF => ?_)
  obtain ⟨hR, hO⟩ := hF
  refine lv_aload_n hx hb dL_law_1523 rfl (lv_at hl 2 rfl) ?_
  refine lv_aload_n hx hb dL_law_1524 rfl (lv_at hl 0 rfl) ?_
  refine lv_iload hx hb dL_law_1525 (lv_at hl 4 rfl) ?_
  refine lv_iconst (v := 1) hx hb dL_law_1527 (by decide) ?_
  refine lv_iadd hx hb dL_law_1528 ?_
  refine va_sld hx hb hX hbl hbA hC.2 hin1 dL_law_1529 ?_
  have hRI : IW D (rca ca) adR (fun z : Nat => s.heap.size ≤ z) s mR H locs := ⟨hR, hC.2⟩
  refine backIf XR hRI (F := fun H => va_P D clsL (wl (cca ca) adC mC) H ∧ va_P D clsL (oC ca q o) H) (fun H1 hk1 => ⟨wl_kF hC.1 (fun i j hi hj e => hJ.1 j i hj hi e.symm) hk1, oC_kF hO hJ.2.2 hk1⟩) (runVt XR hRI (ctX12_count N (xs (nI k + (1 : Int32)).toNatClampNeg) (HNr_r ca) mR (r, mR2) h2 _) mdL_182 (la_99 (HNr_r ca)) rfl ⟨rfl, rfl⟩ ⟨Nat.le_of_ble_eq_true rfl, Nat.le_of_ble_eq_true rfl⟩ rfl hl.1 rfl (Nat.le_of_ble_eq_true rfl) dL_law_1530 hf) (fun H locs hRI hF => ?_)
  obtain ⟨hC, hO⟩ := hF
  refine lv_icmp_eq (tgt := 1538) hx hb dL_law_1533 (by decide) (fun _ => ?_) (fun cq => absurd rfl cq)
  refine W.widen (k := 144 + k + 1) (n := 5739 + k + 6) (by omega) (by omega) ?_
  exact kk mC mR2 o H locs ls hInv ⟨hC, hRI.2⟩ hRI.1 hO hl
