/-- what the tables say of the constructors that are passed through -/
def decL : List Cond := [.declares (Bundle.initS "java/lang/RuntimeException"), .declares (Bundle.initS "java/lang/Exception"), .declares (Bundle.initS Bundle.tN)]
theorem decL_warm {s U : State} (hW : s.WarmedH U.vm) {w : Cond} (hw : w ∈ decL) (h : w.before #[] s = true) : w.before #[] U = true := by
  have key : ∀ y : MethodName, (Cond.declares y).before #[] s = true → (Cond.declares y).before #[] U = true := fun y hy => va_tabs rfl (rfl : (s.setVm U.vm).vm = U.vm) (by rw [Cond.declares_setVm hW.alike]; exact hy)
  rcases List.mem_cons.mp hw with rfl | hw
  · exact key _ h
  · rcases List.mem_cons.mp hw with rfl | hw
    · exact key _ h
    · cases List.mem_singleton.mp hw
      exact key _ h
theorem decL_on {w : Cond} (hw : w ∈ decL) : w.onTables = true := by
  have h : ∀ w ∈ decL, w.onTables = true := by decide +kernel
  exact h w hw

theorem dL_tub_0 : decode cL_tub 0 = .ok (.aload_n 3, 1) := by decide +kernel
theorem dL_tub_1 : decode cL_tub 1 = .ok (.iconst 0, 1) := by decide +kernel
theorem dL_tub_2 : decode cL_tub 2 = .ok (.aload_n 0, 1) := by decide +kernel
theorem dL_tub_3 : decode cL_tub 3 = .ok (.iload_n 1, 1) := by decide +kernel
theorem dL_tub_4 : decode cL_tub 4 = .ok (.iload_n 2, 1) := by decide +kernel
theorem dL_tub_5 : decode cL_tub 5 = .ok (.invokevirtual 7, 3) := by decide +kernel
theorem dL_tub_8 : decode cL_tub 8 = .ok (.i2l, 1) := by decide +kernel
theorem dL_tub_9 : decode cL_tub 9 = .ok (.lastore, 1) := by decide +kernel
theorem dL_tub_10 : decode cL_tub 10 = .ok (.goto 11, 3) := by decide +kernel
theorem dL_tub_13 : decode cL_tub 13 = .ok (.astore 4, 2) := by decide +kernel
theorem dL_tub_15 : decode cL_tub 15 = .ok (.iconst 1, 1) := by decide +kernel
theorem dL_tub_16 : decode cL_tub 16 = .ok (.ireturn, 1) := by decide +kernel
theorem dL_tub_17 : decode cL_tub 17 = .ok (.astore 4, 2) := by decide +kernel
theorem dL_tub_19 : decode cL_tub 19 = .ok (.iconst 2, 1) := by decide +kernel
theorem dL_tub_20 : decode cL_tub 20 = .ok (.ireturn, 1) := by decide +kernel
theorem dL_tub_21 : decode cL_tub 21 = .ok (.iconst 0, 1) := by decide +kernel
theorem dL_tub_22 : decode cL_tub 22 = .ok (.ireturn, 1) := by decide +kernel
theorem lkI : Cond.classLink RX11 132 "java/lang/IndexOutOfBoundsException" ∈ BIG := (tb5 (List.mem_of_getElem? (i := 176) rfl) rfl)
theorem lkN : Cond.classLink RX11 149 "java/util/NoSuchElementException" ∈ BIG := (tb6 (List.mem_of_getElem? (i := 2) rfl) rfl)
theorem inI : Cond.initialized "java/lang/IndexOutOfBoundsException" ∈ BIG := (tb1 (List.mem_of_getElem? (i := 22) rfl) rfl)
theorem inN : Cond.initialized "java/util/NoSuchElementException" ∈ BIG := (tb1 (List.mem_of_getElem? (i := 23) rfl) rfl)
theorem lkLI : Cond.classLink RL 13 "java/lang/IndexOutOfBoundsException" ∈ BIG := (tb5 (List.mem_of_getElem? (i := 170) rfl) rfl)
theorem lkLN : Cond.classLink RL 15 "java/util/NoSuchElementException" ∈ BIG := (tb5 (List.mem_of_getElem? (i := 171) rfl) rfl)
theorem atI_g0 : ∀ w ∈ (vx_atS RX11 136 "java/lang/IndexOutOfBoundsException" ["java/lang/RuntimeException", "java/lang/Exception"]).filter goodWord, w ∈ lw_tbl := by decide +kernel
theorem atI_g : ∀ w ∈ (vx_atS RX11 136 "java/lang/IndexOutOfBoundsException" ["java/lang/RuntimeException", "java/lang/Exception"]).filter goodWord, w ∈ BIG := fun w h => inBIG (atI_g0 w h) (List.mem_filter.mp h).2
theorem atI_n : ∀ w ∈ (vx_atS RX11 136 "java/lang/IndexOutOfBoundsException" ["java/lang/RuntimeException", "java/lang/Exception"]).filter (fun w => !goodWord w), w ∈ Cond.castable "java/lang/IndexOutOfBoundsException" "java/lang/IndexOutOfBoundsException" :: decL := by decide +kernel
theorem atI_o : ∀ w ∈ Cond.classLink RX11 132 "java/lang/IndexOutOfBoundsException" :: Cond.initialized "java/lang/IndexOutOfBoundsException" :: vx_atS RX11 136 "java/lang/IndexOutOfBoundsException" ["java/lang/RuntimeException", "java/lang/Exception"], vx_ot w = true := by decide +kernel
theorem atN_g0 : ∀ w ∈ (at13 RX11 153 "java/util/NoSuchElementException" "java/lang/RuntimeException" ["java/lang/Exception"]).filter goodWord, w ∈ lw_tbl := by decide +kernel
theorem atN_g : ∀ w ∈ (at13 RX11 153 "java/util/NoSuchElementException" "java/lang/RuntimeException" ["java/lang/Exception"]).filter goodWord, w ∈ BIG := fun w h => inBIG (atN_g0 w h) (List.mem_filter.mp h).2
theorem atN_n : ∀ w ∈ (at13 RX11 153 "java/util/NoSuchElementException" "java/lang/RuntimeException" ["java/lang/Exception"]).filter (fun w => !goodWord w), w ∈ Cond.castable "java/util/NoSuchElementException" "java/util/NoSuchElementException" :: decL := by decide +kernel
theorem atN_o : ∀ w ∈ Cond.classLink RX11 149 "java/util/NoSuchElementException" :: Cond.initialized "java/util/NoSuchElementException" :: at13 RX11 153 "java/util/NoSuchElementException" "java/lang/RuntimeException" ["java/lang/Exception"], vx_ot w = true := by decide +kernel
abbrev cwX11_tub : Cond := .code yX11_tub cX11_tub 3 (some .int)
theorem cmX11_tub : cwX11_tub ∈ BIG := (tb5 (List.mem_of_getElem? (i := 175) rfl) rfl)
theorem pdX11_tub : yX11_tub.cls ≠ "java/lang/invoke/MethodHandle" ∧ yX11_tub.cls ≠ "java/lang/invoke/VarHandle" ∧ (parseMethodDescriptor yX11_tub.desc).map (fun d => d.parameters.length) = some 2 := by decide +kernel
theorem mdL_7 : MD RL 7 yX11_tub cwX11_tub 2 := ⟨(tb5 (List.mem_of_getElem? (i := 172) rfl) rfl), (tb5 (List.mem_of_getElem? (i := 173) rfl) rfl), (tb5 (List.mem_of_getElem? (i := 174) rfl) rfl), (tb1 (List.mem_of_getElem? (i := 1) rfl) rfl), cmX11_tub, pdX11_tub⟩
abbrev cwL_tub : Cond := .codeWith yL_tub cL_tub 5 (some .int) [(0, 10, 13, 13), (0, 10, 17, 15)]
theorem cmL_tub : cwL_tub ∈ BIG := (tb5 (List.mem_of_getElem? (i := 169) rfl) rfl)
/-- what a throw needs -/
def PX (A : Nat → Prop) (U : State) (H : Heap) : Prop := (∃ sa, vk_R RX11 134 "no such tub" sa U) ∧ (∃ sa, vk_R RX11 151 "no such what" sa U) ∧ vx_Zq Bundle.tN "UNASSIGNED_STACK" Bundle.steD A U H ∧ vx_Zq Bundle.tN "SUPPRESSED_SENTINEL" Bundle.listD A U H ∧ va_Nw (.castable "java/lang/IndexOutOfBoundsException" "java/lang/IndexOutOfBoundsException") U ∧ va_Nw (.castable "java/util/NoSuchElementException" "java/util/NoSuchElementException") U ∧ va_Nc "java/util/NoSuchElementException" "java/lang/IndexOutOfBoundsException" U ∧ ∀ w ∈ decL, w.before #[] U = true
theorem PX.kept {A : Nat → Prop} {U : State} {H H1 : Heap} (h : PX A U H) (hq : ∀ a : Nat, a < H.size → ¬ A a → H1[a]? = H[a]?) : PX A U H1 := ⟨h.1, h.2.1, h.2.2.1.kept hq, h.2.2.2.1.kept hq, h.2.2.2.2⟩
theorem PX.narrow {A B : Nat → Prop} {U : State} {H : Heap} (h : PX A U H) (hAB : ∀ q, B q → A q) : PX B U H := ⟨h.1, h.2.1, h.2.2.1.narrow hAB, h.2.2.2.1.narrow hAB, h.2.2.2.2⟩
theorem PX.warm {A : Nat → Prop} {s U : State} {H : Heap} (hW : s.WarmedH U.vm) (h : PX A s H) : PX A U H := ⟨h.1.elim fun a q => ⟨a, q.warm hW⟩, h.2.1.elim fun a q => ⟨a, q.warm hW⟩, h.2.2.1.moved hW.alike, h.2.2.2.1.moved hW.alike, h.2.2.2.2.1.warmC hW, h.2.2.2.2.2.1.warmC hW, h.2.2.2.2.2.2.1.moved hW.alike, fun w hw => decL_warm hW hw (h.2.2.2.2.2.2.2 w hw)⟩
theorem PX.call {A : Nat → Prop} {U : State} {H : Heap} {g : JFrame} {mk : MethodId} {a : Array Value} (h : PX A U H) : PX A (U.calling g mk a) H := ⟨h.1.elim fun b q => ⟨b, q.same (u := U) (U := U.calling g mk a) rfl⟩, h.2.1.elim fun b q => ⟨b, q.same (u := U) (U := U.calling g mk a) rfl⟩, h.2.2.1.moved (u := U) (U := U.calling g mk a) (Vm.Alike.refl U.vm), h.2.2.2.1.moved (u := U) (U := U.calling g mk a) (Vm.Alike.refl U.vm), h.2.2.2.2.1, h.2.2.2.2.2.1, h.2.2.2.2.2.2.1.moved (u := U) (U := U.calling g mk a) (Vm.Alike.refl U.vm), fun w hw => va_tabs (decL_on hw) (rfl : U.vm = (U.calling g mk a).vm) (h.2.2.2.2.2.2.2 w hw)⟩
/-- tub: (0, r) it answers r; (1, _) no such tub; (2, _) no such what -/
def fX11_tub (x1 x2 : Int32) (m : Mem) : Option (Int32 × Int32) := if lay (m.2.2 3) = (0, 6) then ((fX6_hasTub (m.2.2 3) x1 m).bind (fun q1 => if q1 = 0 then (some (1, 0)) else (if x2 = (0 : Int32) then (if x1 < 0 ∨ 6 ≤ x1.toNatClampNeg then none else (some (0, (m.1 44 x1.toNatClampNeg)))) else (if x2 = (1 : Int32) then (if x1 < 0 ∨ 6 ≤ x1.toNatClampNeg then none else (some (0, (m.1 45 x1.toNatClampNeg)))) else (if x2 = (2 : Int32) then (if x1 < 0 ∨ 6 ≤ x1.toNatClampNeg then none else (some (0, (m.1 46 x1.toNatClampNeg)))) else (some (2, 0))))))) else none
abbrev rmX11_tub : Room := { frames := 6, cells := 1, slots := 6, locals := 100 }
abbrev XT (D : va_G) (ca : Nat → ClassId) (ad : Nat → Nat) (sz : Nat) (k : Int32) (m : Mem) : String → State → State → Prop := vx_X (fun _ : Unit => True) (fun E _ t => ((k = 1 ∧ E = "java/lang/IndexOutOfBoundsException") ∨ (k = 2 ∧ E = "java/util/NoSuchElementException")) ∧ QW D ca ad m t) (WA ca ad sz)
abbrev QT (D : va_G) (ca : Nat → ClassId) (ad : Nat → Nat) (sz : Nat) (k r : Int32) (m : Mem) : Array Value → State → Outcome → State → Prop := va_Qi (fun r' (u : Mem) => (k = 0 ∧ r' = r) ∧ u = m) (QW D ca ad) (WA ca ad sz)
set_option maxHeartbeats 4000000 in
set_option maxRecDepth 100000 in
theorem ctX11_tub {l : Launch} (htr : l.stackTraces = false) {D : va_G} {ca : Nat → ClassId} {ad : Nat → Nat} (hn : HNc ca) (x1 x2 : Int32) (m : Mem) (k r : Int32) (hm : fX11_tub x1 x2 m = some (k, r)) (sz : Nat) :
    vx_Met l yX11_tub (cwX11_tub :: BIG) rmX11_tub (va_Pc [.ref (ad 0), .int x1, .int x2] (fun U => PW D ca ad m sz U ∧ PX (WA ca ad sz) U U.heap)) (QT D ca ad sz k r m) (XT D ca ad sz k m) 1 6 (WA ca ad sz) := by
  refine vx_ofW (cc := cX11_tub) (maxL := 3) (ret := some .int) (by decide) rfl ?_
  intro p e s mm args below meth c s₁ B hml htab hv
  obtain ⟨rfl, ⟨hsz, hP, hK, had, hsk⟩, hpx⟩ := hv
  subst hsz
  have hts0 := atoms_spec (ws := cwX11_tub :: BIG) B.pre
  have X : CX p s mm _ meth c cX11_tub 3 RX11 D ca ad (WA ca ad s.heap.size) := ⟨B.exec, B.bytes, hml, findClass_of_methodNamed B.named, fun w hw => hts0 w (List.mem_cons_of_mem _ hw), hK, had, fun i hi => Or.inl ⟨i, hi, rfl⟩, fun q hq => Or.inr hq, B.notSynchronized, hsk⟩
  have hI : IW D ca ad (WA ca ad s.heap.size) s m s.heap [] := ⟨hP, va_S.rf⟩
  have hr := B.returns
  have hx := X.1
  have hb := X.2.1
  have hts := X.2.2.2.2.1
  have hlocks := X.2.2.2.2.2.2.2.2.2.1
  have hl := lv_entry ([.ref (ad 0), .int x1, .int x2]) (n := 3) (Nat.le_of_ble_eq_true rfl)
  rw [lg_entry_eq]
  generalize (lg_sl ([.ref (ad 0), .int x1, .int x2]) ++ List.replicate (3 - (lg_sl ([.ref (ad 0), .int x1, .int x2])).length) Slot.unset).toArray = ls at hl ⊢
  have hl : lv_has ls 3 [(0, .ref (ad 0)), (1, .int x1), (2, .int x2)] := hl
  have hout : ∀ (pc : Nat), ∀ x ∈ c.exceptionTable.toList, covers x pc = false := fun pc x hx9 => (htab x hx9).elim
  unfold fX11_tub at hm
  refine lv_aload_n hx hb dX11_tub_0 rfl (lv_at hl 0 rfl) ?_
  obtain ⟨g1, hm⟩ := g_is hm
  refine gR X hI fdX11_27 (la_0 hn) rf11_3 dX11_tub_1 ?_
  refine lv_iload_n hx hb dX11_tub_4 rfl (lv_at hl 1 rfl) ?_
  obtain ⟨q2, h3, hm⟩ := g_b hm
  refine backI X hI (runV X hI (ctX6_hasTub (m.2.2 3) x1 (lyO hn g1) hn _ _ h3 _) mdX11_128 (lyO hn g1) rfl ⟨rfl, rfl⟩ ⟨Nat.le_of_ble_eq_true rfl, Nat.le_of_ble_eq_true rfl⟩ rfl hl.1 rfl (Nat.le_of_ble_eq_true rfl) dX11_tub_5) (fun H locs hI => ?_)
  have hpx : PX (WA ca ad s.heap.size) s s.heap := hpx
  have hdec : ∀ w ∈ decL, w.before [.ref (ad 0), .int x1, .int x2].toArray s = true := fun w hw => va_tabs (decL_on hw) rfl (hpx.2.2.2.2.2.2.2 w hw)
  have hret : ∀ (v : Int32) (pc : Nat), decode cX11_tub pc = .ok (.ireturn, 1) → k = 0 → v = r → W p l e rmX11_tub s mm [.ref (ad 0), .int x1, .int x2].toArray below meth c H locs 0 0 (vx_MQ below (QT D ca ad s.heap.size k r m) (XT D ca ad s.heap.size k m) [.ref (ad 0), .int x1, .int x2].toArray s 1 6 (WA ca ad s.heap.size)) (F0 mm pc ls [.int v]) := by
    intro v pc hd hk0 hv
    refine W.widen (k := 1) (n := 6) (by decide) (by decide) ?_
    exact vx_ret (W.iret hx hb hr (fun t ht hW => ⟨⟨v, m, rfl, ⟨⟨hk0, hv⟩, rfl⟩, by rw [ht]; exact hI.1, va_K.moved hW.alike X.2.2.2.2.2.1⟩, hI.2.F ht⟩) hI.2.2.2 hd)
  have hxc : ∀ (E : String), ((k = 1 ∧ E = "java/lang/IndexOutOfBoundsException") ∨ (k = 2 ∧ E = "java/util/NoSuchElementException")) → ∀ t : State, s.vm.Alike t.vm → H.size ≤ t.heap.size → (∀ q : Nat, q < H.size → t.heap[q]? = H[q]?) → XT D ca ad s.heap.size k m E s t := by
    intro E hE t hal h1 h2
    refine ⟨(), trivial, ⟨hE, hI.1.kept (fun k x hx => h2 x.1 ((hI.1 k x hx).lt)), va_K.moved hal X.2.2.2.2.2.1⟩, Nat.le_trans hI.2.1 h1, fun q g1 g2 => ?_⟩
    rw [h2 q (Nat.lt_of_lt_of_le g1 hI.2.1)]
    exact hI.2.2.1 q g1 g2
  refine lv_if_ne (tgt := 21) hx hb dX11_tub_8 (by decide) (fun c1 => ?_) (fun c1 => ?_)
  · have hm := g_f c1 hm
    refine lv_iload_n hx hb dX11_tub_21 rfl (lv_at hl 2 rfl) ?_
    by_cases c2 : x2 = (0 : Int32)
    · have hm := g_t c2 hm
      refine lv_tableIn (tgt := 48) hx hb dX11_tub_22 (by rw [c2]; decide) (by rw [c2]; decide) (off := 26) (by rw [c2]; decide) (by decide) ?_
      obtain ⟨g5, hm⟩ := g_no hm
      refine lv_aload_n hx hb dX11_tub_48 rfl (lv_at hl 0 rfl) ?_
      refine gR X hI fdX11_37 (la_0 hn) rf11_5 dX11_tub_49 ?_
      refine gR X hI fdX11_139 (la_43 hn) (q := 44) rfl dX11_tub_52 ?_
      refine lv_iload_n hx hb dX11_tub_55 rfl (lv_at hl 1 rfl) ?_
      refine aI X hI (la_44 hn) g5 dX11_tub_56 ?_
      exact hret _ 57 dX11_tub_57 (g_2 hm).1.symm (g_2 hm).2
    · have hm := g_f c2 hm
      by_cases c3 : x2 = (1 : Int32)
      · have hm := g_t c3 hm
        refine lv_tableIn (tgt := 58) hx hb dX11_tub_22 (by rw [c3]; decide) (by rw [c3]; decide) (off := 36) (by rw [c3]; decide) (by decide) ?_
        obtain ⟨g5, hm⟩ := g_no hm
        refine lv_aload_n hx hb dX11_tub_58 rfl (lv_at hl 0 rfl) ?_
        refine gR X hI fdX11_37 (la_0 hn) rf11_5 dX11_tub_59 ?_
        refine gR X hI fdX11_143 (la_43 hn) (q := 45) rfl dX11_tub_62 ?_
        refine lv_iload_n hx hb dX11_tub_65 rfl (lv_at hl 1 rfl) ?_
        refine aI X hI (la_45 hn) g5 dX11_tub_66 ?_
        exact hret _ 67 dX11_tub_67 (g_2 hm).1.symm (g_2 hm).2
      · have hm := g_f c3 hm
        by_cases c4 : x2 = (2 : Int32)
        · have hm := g_t c4 hm
          refine lv_tableIn (tgt := 68) hx hb dX11_tub_22 (by rw [c4]; decide) (by rw [c4]; decide) (off := 46) (by rw [c4]; decide) (by decide) ?_
          obtain ⟨g5, hm⟩ := g_no hm
          refine lv_aload_n hx hb dX11_tub_68 rfl (lv_at hl 0 rfl) ?_
          refine gR X hI fdX11_37 (la_0 hn) rf11_5 dX11_tub_69 ?_
          refine gR X hI fdX11_146 (la_43 hn) (q := 46) rfl dX11_tub_72 ?_
          refine lv_iload_n hx hb dX11_tub_75 rfl (lv_at hl 1 rfl) ?_
          refine aI X hI (la_46 hn) g5 dX11_tub_76 ?_
          exact hret _ 77 dX11_tub_77 (g_2 hm).1.symm (g_2 hm).2
        · have hm := g_f c4 hm
          have e1 := lv_neT c2 (a := 0) (by decide)
          have e2 := lv_neT c3 (a := 1) (by decide)
          have e3 := lv_neT c4 (a := 2) (by decide)
          refine lv_tableOut (tgt := 78) hx hb dX11_tub_22 (by omega) (by decide) ?_
          obtain ⟨sa, hsa⟩ := hpx.2.1
          refine vx_make13 hx hb htr X.2.2.2.1 (by decide) (by decide) (by decide) (hts _ lkN) (hts _ inN) hsa (vx_hat (fun w hw => hts w (atN_g w hw)) atN_n (vx_c hpx.2.2.2.2.2.1 hdec)) atN_o hpx.2.2.1 hpx.2.2.2.1 hI.2 (by rw [X.2.2.1]; exact hl.1) dX11_tub_78 dX11_tub_81 dX11_tub_82 dX11_tub_84 (Nat.le_of_ble_eq_true rfl) (Nat.le_of_ble_eq_true rfl) (Nat.le_of_ble_eq_true rfl) (Nat.le_of_ble_eq_true rfl) (fun q9 ce H1 hc1 hc2 hc3 hs1 hs2 hS1 => ?_)
          exact vx_athrow hx hb dX11_tub_87 (vx_out (hout _) hlocks hc1 hc2 hc3 (fun t ht hal => hxc _ (Or.inr ⟨(g_2 hm).1.symm, rfl⟩) t hal (by rw [ht]; exact hs1) (fun z hz => by rw [ht]; exact hs2 z hz)) hS1.2.2 (Nat.le_refl _) (Nat.le_refl _))
  · have hm := g_t c1 hm
    obtain ⟨sa, hsa⟩ := hpx.1
    exact vx_throwS hx hb htr X.2.2.2.1 (by decide) (by decide) (hts _ lkI) (hts _ inI) hsa (vx_hat (fun w hw => hts w (atI_g w hw)) atI_n (vx_c hpx.2.2.2.2.1 hdec)) atI_o hpx.2.2.1 hpx.2.2.2.1 hI.2 (by rw [X.2.2.1]; exact hl.1) dX11_tub_11 dX11_tub_14 dX11_tub_15 dX11_tub_17 dX11_tub_20 (hout _) (Nat.le_of_ble_eq_true rfl) (Nat.le_of_ble_eq_true rfl) (Nat.le_of_ble_eq_true rfl) (Nat.le_of_ble_eq_true rfl) hlocks (hxc _ (Or.inl ⟨(g_2 hm).1.symm, rfl⟩)) hI.2.2.2 (Nat.le_refl _) (Nat.le_refl _)
theorem va_P_split {D : va_G} {cl : List vw_C} {a b : va_W} {H : Heap} (h : va_P D cl (a ++ b) H) : va_P D cl a H ∧ va_P D cl b H := by
  refine ⟨fun k x hx => h k x ?_, fun k x hx => h (a.length + k) x ?_⟩
  · rw [List.getElem?_append_left ((List.getElem?_eq_some_iff.mp hx).1)]
    exact hx
  · rw [List.getElem?_append_right (Nat.le_add_right _ _), Nat.add_sub_cancel_left]
    exact hx
theorem oneD {A : Nat → Prop} {q : Nat} {x : va_E} (hA : A q) : va_D A [(q, x)] := by
  have key : ∀ (k : Nat) (z : Nat × va_E), [(q, x)][k]? = some z → k = 0 ∧ z = (q, x) := by
    intro k z hz
    have hk : k < 1 := (List.getElem?_eq_some_iff.mp hz).1
    have hk0 : k = 0 := by omega
    subst hk0
    cases hz
    exact ⟨rfl, rfl⟩
  refine ⟨fun i j y z hi hj _ => by rw [(key i y hi).1, (key j z hj).1], fun k z hz => ?_⟩
  rw [(key k z hz).2]
  exact hA
theorem wq_D {ca : Nat → ClassId} {ad : Nat → Nat} {A : Nat → Prop} {m : Mem} {q : Nat} {x : va_E} (h : adI ca ad) (hA : ∀ i, (ca 10 ≤ i ∧ i < ca 9) → A (ad i)) (hq : A q) (hne : ∀ i, (ca 10 ≤ i ∧ i < ca 9) → ad i ≠ q) : va_D A (wl ca ad m ++ [(q, x)]) := by
  refine va_D.app (wl_D h hA m) (oneD hq) (fun i j y z hi hj e => ?_)
  have hj0 : j < 1 := (List.getElem?_eq_some_iff.mp hj).1
  have hj1 : j = 0 := by omega
  subst hj1
  cases hj
  have hil : i < ca 9 - ca 10 := by
    have := (List.getElem?_eq_some_iff.mp hi).1
    rw [wl_len] at this
    exact this
  rw [wl_at2 hil] at hi
  cases hi
  exact hne _ ⟨Nat.le_add_right _ _, Nat.add_lt_of_lt_sub' hil⟩ e
theorem app_last {α : Type} (a : List α) (x : α) : (a ++ [x])[a.length]? = some x := by
  rw [List.getElem?_append_right (Nat.le_refl _), Nat.sub_self]
  rfl
theorem app_set {α : Type} (a : List α) (x y : α) : (a ++ [x]).set a.length y = a ++ [y] := by
  induction a with
  | nil => rfl
  | cons h t ih => exact congrArg (List.cons h) ih
/-- the law's tub, its world: the class's cells and the one long -/
def WLo (ca ad : Nat → Nat) (q sz : Nat) : Nat → Prop := fun z => WA ca ad sz z ∨ z = q
abbrev oC (ca : Nat → Nat) (q : Nat) (o : Nat → Int64) : va_W := [(q, .inl (ca 3, 1, .inr (.inl o)))]
def PL (D : va_G) (ca : Nat → ClassId) (ad : Nat → Nat) (m : Mem) (q : Nat) (o : Nat → Int64) (sz : Nat) (U : State) : Prop := U.heap.size = sz ∧ va_P D clsL (wl ca ad m) U.heap ∧ va_P D clsL (oC ca q o) U.heap ∧ va_K D clsL (tyA ca) U ∧ adI ca ad ∧ (∀ i, (ca 10 ≤ i ∧ i < ca 9) → ad i ≠ q) ∧ SK ca (WLo ca ad q sz) U U.heap ∧ PX (WLo ca ad q sz) U U.heap
def oNew (o : Nat → Int64) (k r : Int32) : Nat → Int64 := if k = 0 then vp_updL o 0 r.toInt64 else o
abbrev QLt (D : va_G) (ca : Nat → ClassId) (ad : Nat → Nat) (m : Mem) (q : Nat) (o : Nat → Int64) (k r : Int32) (sz : Nat) : Array Value → State → Outcome → State → Prop := va_Qi (fun r' (u : Nat → Int64) => r' = k ∧ u = oNew o k r) (fun u t => QW D ca ad m t ∧ va_P D clsL (oC ca q u) t.heap) (WLo ca ad q sz)
theorem tubEnd {p : Program} {l : Launch} {e : Env} {R : Room} {s : State} {mm : MethodId} {args : Array Value} {below : List Frame} {meth : Method} {c : Code} {H : Heap} {locs : List Loc} {D : va_G} {ca : Nat → ClassId} {ad : Nat → Nat} {m : Mem} {q : Nat} {o : Nat → Int64} {k r : Int32} {ls : Array Slot} {pc : Nat} (hx : p.tables.exec = Jvm.exec) (hb : c.code = cL_tub) (hr : meth.sig.returnType = some .int) (hlocks : meth.locks = false) (hK : va_K D clsL (tyA ca) s) (u : Nat → Int64) (hu : u = oNew o k r) (hP : va_P D clsL (wl ca ad m) H) (hO : va_P D clsL (oC ca q u) H) (hS : va_S (WLo ca ad q s.heap.size) s.heap H locs) (hd : decode cL_tub pc = .ok (.ireturn, 1)) (v : Int32) (hv : v = k) :
    W p l e R s mm args below meth c H locs 1 6 (MQ below (QLt D ca ad m q o k r s.heap.size) args s 1 6 (WLo ca ad q s.heap.size)) (F0 mm pc ls [.int v]) := by
  refine W.iret (Qc := QLt D ca ad m q o k r s.heap.size) (free := WLo ca ad q s.heap.size) hx hb hr (fun t ht hW => ?_) hS.2.2 hd hlocks
  have hP' : va_P D clsL (wl ca ad m) t.heap := by rw [ht]; exact hP
  have hO' : va_P D clsL (oC ca q u) t.heap := by rw [ht]; exact hO
  exact ⟨⟨v, u, rfl, ⟨hv, hu⟩, ⟨hP', va_K.moved hW.alike hK⟩, hO'⟩, hS.F ht⟩
abbrev rmL_tub : Room := { frames := 8, cells := 1, slots := 6, locals := 200 }
set_option maxHeartbeats 4000000 in
set_option maxRecDepth 100000 in
theorem ctL_tub {l : Launch} (htr : l.stackTraces = false) {D : va_G} {ca : Nat → ClassId} {ad : Nat → Nat} (hn : HNc ca) (x1 x2 : Int32) (m : Mem) (k r : Int32) (hm : fX11_tub x1 x2 m = some (k, r)) (q : Nat) (o : Nat → Int64) (sz : Nat) :
    Met l yL_tub (cwL_tub :: BIG) rmL_tub (va_Pc [.ref (ad 0), .int x1, .int x2, .ref q] (PL D ca ad m q o sz)) (QLt D ca ad m q o k r sz) 1 6 (WLo ca ad q sz) := by
  refine va_MetW (cc := cL_tub) (maxL := 5) (ret := some .int) (by decide) rfl ?_
  intro p e s mm args below meth c s₁ B hml hv
  obtain ⟨rfl, hsz, hP, hO, hK, had, hne, hsk, hpx⟩ := hv
  subst hsz
  have hts0 := atoms_spec (ws := cwL_tub :: BIG) B.pre
  have hts : ∀ w ∈ BIG, w.before _ s = true := fun w hw => hts0 w (List.mem_cons_of_mem _ hw)
  have htab : c.exceptionTable.toList = tableOf [(0, 10, 13, 13), (0, 10, 17, 15)] := vx_table (x := yL_tub) B (hts0 _ List.mem_cons_self)
  have hx := B.exec
  have hb := B.bytes
  have hr := B.returns
  have hown : s.vm.findClass RL = some mm.cls := findClass_of_methodNamed B.named
  have hlocks := B.notSynchronized
  have hS0 : va_S (WLo ca ad q s.heap.size) s.heap s.heap [] := va_S.rf
  have hA : ∀ z, s.heap.size ≤ z → WLo ca ad q s.heap.size z := fun z h => Or.inl (Or.inr h)
  have hl := lv_entry ([.ref (ad 0), .int x1, .int x2, .ref q]) (n := 5) (Nat.le_of_ble_eq_true rfl)
  rw [lg_entry_eq]
  generalize (lg_sl ([.ref (ad 0), .int x1, .int x2, .ref q]) ++ List.replicate (5 - (lg_sl ([.ref (ad 0), .int x1, .int x2, .ref q])).length) Slot.unset).toArray = ls at hl ⊢
  have hl : lv_has ls 5 [(0, .ref (ad 0)), (1, .int x1), (2, .int x2), (3, .ref q)] := hl
  refine lv_aload_n hx hb dL_tub_0 rfl (lv_at hl 3 rfl) ?_
  refine lv_iconst (v := 0) hx hb dL_tub_1 (by decide) ?_
  refine lv_aload_n hx hb dL_tub_2 rfl (lv_at hl 0 rfl) ?_
  refine lv_iload_n hx hb dL_tub_3 rfl (lv_at hl 1 rfl) ?_
  refine lv_iload_n hx hb dL_tub_4 rfl (lv_at hl 2 rfl) ?_
  have hqs : q < s.heap.size := (hO 0 _ rfl).lt
  have hwa : ∀ z, WA ca ad s.heap.size z → WLo ca ad q s.heap.size z := fun z h => Or.inl h
  obtain ⟨w1, w2, w3, w4, w5, w6⟩ := mdL_7
  have hrun := vx_runV (Ts := BIG) (C := yX11_tub.cls) (As := [.int x1, .int x2]) (rest := [.int 0, .ref q]) (g := F0 mm 5 ls [.int x2, .int x1, .ref (ad 0), .int 0, .ref q]) (locs := []) (cells := 0) (slots := 0) (e := e) (below := below) (meth := meth) (R := rmL_tub) (H := s.heap) ⟨hx, hb, hml, hown, hts⟩ (ctX11_tub htr (D := D) (ad := ad) hn x1 x2 m k r hm s.heap.size) ⟨callB_of 2 hts (big_in w5) rfl rfl rfl (hts _ w4) (hts _ w1) w6 ⟨Nat.le_of_ble_eq_true rfl, Nat.le_of_ble_eq_true rfl⟩, hts _ w2, hts _ w3⟩
    ⟨fun a U g mk z => by
      obtain ⟨z0, ⟨z1, zP, zK, zD, zS⟩, zX⟩ := z
      exact ⟨z0, ⟨z1, zP, va_K.moved (u := U) (U := U.calling g mk a) (Vm.Alike.refl U.vm) zK, zD, SK.call zS⟩, PX.call zX⟩, va_recv hK hP (ci := 11) rfl (wl_o (la_0 hn)), fun U hU hW => ⟨rfl, ⟨by rw [hU], by rw [hU]; exact hP, va_K.moved hW.alike hK, had, by rw [hU]; exact (hsk.narrow hwa).warm hW⟩, by rw [hU]; exact (hpx.narrow hwa).warm hW⟩⟩ rfl rfl hl.1 rfl (lv_room (Nat.le_of_ble_eq_true rfl)) dL_tub_5 ⟨Nat.le_of_ble_eq_true rfl, Nat.le_of_ble_eq_true rfl⟩
  have hkeepO : ∀ (H1 : Heap) , (∀ z : Nat, z < s.heap.size → ¬ WA ca ad s.heap.size z → H1[z]? = s.heap[z]?) → va_P D clsL (oC ca q o) H1 := by
    intro H1 hk
    refine hO.kept (fun j x hx9 => ?_)
    have hj0 : j < 1 := (List.getElem?_eq_some_iff.mp hx9).1
    have hj1 : j = 0 := by omega
    subst hj1
    cases hx9
    refine hk q hqs (fun z => ?_)
    rcases z with ⟨i, h1, h2⟩ | h1
    · exact hne i h1 h2.symm
    · exact absurd hqs (Nat.not_lt.mpr h1)
  refine vx_calli hrun hS0 (fun z _ h => hwa z h) hwa (fun z _ h => hwa z h) (fun E ce q9 u t H1 locs1 ht hvm _ hB hz1 hk1 hS hc1 hc2 hc3 => ?_) (fun r1 u t H1 locs1 ht hvm hw hB hz1 hk1 hS => ?_)
  · obtain ⟨hE, hQ⟩ := hB
    have hP1 : va_P D clsL (wl ca ad m) H1 := by rw [← ht]; exact hQ.1
    have hO1 := hkeepO H1 hk1
    rcases hE with ⟨rfl, rfl⟩ | ⟨rfl, rfl⟩
    · refine vx_catch hown [] ⟨0, 10, 13, 13⟩ [⟨0, 10, 17, 15⟩] (by rw [htab]; rfl) (fun _ h => by cases h) (by decide) (by decide) (hts _ lkLI) hpx.2.2.2.2.1 hc1 hc2 hc3 ?_
      refine lv_astore (lv' := [(4, .ref q9), (0, .ref (ad 0)), (1, .int x1), (2, .int x2), (3, .ref q)]) hx hb dL_tub_13 hl (by decide) rfl (fun ls hl => ?_)
      refine lv_iconst (v := 1) hx hb dL_tub_15 (by decide) ?_
      exact tubEnd hx hb hr hlocks hK o (show o = oNew o 1 r from (if_neg (by decide)).symm) hP1 hO1 hS dL_tub_16 1 rfl
    · refine vx_catch hown [⟨0, 10, 13, 13⟩] ⟨0, 10, 17, 15⟩ [] (by rw [htab]; rfl) (fun z h => by
        cases List.mem_singleton.mp h
        exact Or.inr ⟨by decide, _, hts _ lkLI, hpx.2.2.2.2.2.2.1⟩) (by decide) (by decide) (hts _ lkLN) hpx.2.2.2.2.2.1 hc1 hc2 hc3 ?_
      refine lv_astore (lv' := [(4, .ref q9), (0, .ref (ad 0)), (1, .int x1), (2, .int x2), (3, .ref q)]) hx hb dL_tub_17 hl (by decide) rfl (fun ls hl => ?_)
      refine lv_iconst (v := 2) hx hb dL_tub_19 (by decide) ?_
      exact tubEnd hx hb hr hlocks hK o (show o = oNew o 2 r from (if_neg (by decide)).symm) hP1 hO1 hS dL_tub_20 2 rfl
  · have hu := hw.2
    rw [hu] at hB
    have hk0 := hw.1.1
    have hr1 := hw.1.2
    subst hk0
    subst hr1
    have hP1 : va_P D clsL (wl ca ad m) H1 := by rw [← ht]; exact hB.1
    have hO1 := hkeepO H1 hk1
    refine lv_i2l hx hb dL_tub_8 rfl ?_
    have hD1 : va_D (WLo ca ad q s.heap.size) (wl ca ad m ++ oC ca q o) := wq_D had (fun i hi => Or.inl (Or.inl ⟨i, hi, rfl⟩)) (Or.inr rfl) hne
    refine va_last (ws := wl ca ad m ++ oC ca q o) hx hb hK (hP1.app hO1) hD1 hS (wl ca ad m).length 3 (app_last _ _) rfl (show ¬ ((0 : Int32) < 0 ∨ 1 ≤ (0 : Int32).toNatClampNeg) by decide) dL_tub_9 (fun H locs hP hD hS => ?_)
    rw [app_set] at hP
    obtain ⟨hP2, hO2⟩ := va_P_split hP
    refine lv_goto (tgt := 21) hx hb dL_tub_10 (by decide) ?_
    refine lv_iconst (v := 0) hx hb dL_tub_21 (by decide) ?_
    exact tubEnd hx hb hr hlocks hK (vp_updL o 0 r1.toInt64) (show _ = oNew o 0 r1 from (if_pos rfl).symm) hP2 hO2 hS dL_tub_22 0 rfl

