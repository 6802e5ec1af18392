theorem dJ0_length_8abf5_0 : decode cJ0_length_8abf5 0 = .ok (.aload_n 0, 1) := by decide +kernel
theorem dJ0_length_8abf5_1 : decode cJ0_length_8abf5 1 = .ok (.getfield 9, 3) := by decide +kernel
theorem dJ0_length_8abf5_4 : decode cJ0_length_8abf5 4 = .ok (.arraylength, 1) := by decide +kernel
theorem dJ0_length_8abf5_5 : decode cJ0_length_8abf5 5 = .ok (.aload_n 0, 1) := by decide +kernel
theorem dJ0_length_8abf5_6 : decode cJ0_length_8abf5 6 = .ok (.invokevirtual 335, 3) := by decide +kernel
theorem dJ0_length_8abf5_9 : decode cJ0_length_8abf5 9 = .ok (.ishr, 1) := by decide +kernel
theorem dJ0_length_8abf5_10 : decode cJ0_length_8abf5 10 = .ok (.ireturn, 1) := by decide +kernel
theorem dJ0_charAt_5068e_0 : decode cJ0_charAt_5068e 0 = .ok (.aload_n 0, 1) := by decide +kernel
theorem dJ0_charAt_5068e_1 : decode cJ0_charAt_5068e 1 = .ok (.invokevirtual 492, 3) := by decide +kernel
theorem dJ0_charAt_5068e_4 : decode cJ0_charAt_5068e 4 = .ok (.ifCond .eq 12, 3) := by decide +kernel
theorem dJ0_charAt_5068e_7 : decode cJ0_charAt_5068e 7 = .ok (.aload_n 0, 1) := by decide +kernel
theorem dJ0_charAt_5068e_8 : decode cJ0_charAt_5068e 8 = .ok (.getfield 9, 3) := by decide +kernel
theorem dJ0_charAt_5068e_11 : decode cJ0_charAt_5068e 11 = .ok (.iload_n 1, 1) := by decide +kernel
theorem dJ0_charAt_5068e_12 : decode cJ0_charAt_5068e 12 = .ok (.invokestatic 495, 3) := by decide +kernel
theorem dJ0_charAt_5068e_15 : decode cJ0_charAt_5068e 15 = .ok (.ireturn, 1) := by decide +kernel
theorem dJ0_charAt_5068e_16 : decode cJ0_charAt_5068e 16 = .ok (.aload_n 0, 1) := by decide +kernel
theorem dJ0_charAt_5068e_17 : decode cJ0_charAt_5068e 17 = .ok (.getfield 9, 3) := by decide +kernel
theorem dJ0_charAt_5068e_20 : decode cJ0_charAt_5068e 20 = .ok (.iload_n 1, 1) := by decide +kernel
theorem dJ0_charAt_5068e_21 : decode cJ0_charAt_5068e 21 = .ok (.invokestatic 498, 3) := by decide +kernel
theorem dJ0_charAt_5068e_24 : decode cJ0_charAt_5068e 24 = .ok (.ireturn, 1) := by decide +kernel
theorem dJ0_coder_7d493_0 : decode cJ0_coder_7d493 0 = .ok (.getstatic 38, 3) := by decide +kernel
theorem dJ0_coder_7d493_3 : decode cJ0_coder_7d493 3 = .ok (.ifCond .eq 10, 3) := by decide +kernel
theorem dJ0_coder_7d493_6 : decode cJ0_coder_7d493 6 = .ok (.aload_n 0, 1) := by decide +kernel
theorem dJ0_coder_7d493_7 : decode cJ0_coder_7d493 7 = .ok (.getfield 15, 3) := by decide +kernel
theorem dJ0_coder_7d493_10 : decode cJ0_coder_7d493 10 = .ok (.goto 4, 3) := by decide +kernel
theorem dJ0_coder_7d493_13 : decode cJ0_coder_7d493 13 = .ok (.iconst 1, 1) := by decide +kernel
theorem dJ0_coder_7d493_14 : decode cJ0_coder_7d493 14 = .ok (.ireturn, 1) := by decide +kernel
theorem dJ0_isLatin1_aae02_0 : decode cJ0_isLatin1_aae02 0 = .ok (.getstatic 38, 3) := by decide +kernel
theorem dJ0_isLatin1_aae02_3 : decode cJ0_isLatin1_aae02 3 = .ok (.ifCond .eq 14, 3) := by decide +kernel
theorem dJ0_isLatin1_aae02_6 : decode cJ0_isLatin1_aae02 6 = .ok (.aload_n 0, 1) := by decide +kernel
theorem dJ0_isLatin1_aae02_7 : decode cJ0_isLatin1_aae02 7 = .ok (.getfield 15, 3) := by decide +kernel
theorem dJ0_isLatin1_aae02_10 : decode cJ0_isLatin1_aae02 10 = .ok (.ifCond .ne 7, 3) := by decide +kernel
theorem dJ0_isLatin1_aae02_13 : decode cJ0_isLatin1_aae02 13 = .ok (.iconst 1, 1) := by decide +kernel
theorem dJ0_isLatin1_aae02_14 : decode cJ0_isLatin1_aae02 14 = .ok (.goto 4, 3) := by decide +kernel
theorem dJ0_isLatin1_aae02_17 : decode cJ0_isLatin1_aae02 17 = .ok (.iconst 0, 1) := by decide +kernel
theorem dJ0_isLatin1_aae02_18 : decode cJ0_isLatin1_aae02 18 = .ok (.ireturn, 1) := by decide +kernel
theorem dJ0_checkIndex_df160_0 : decode cJ0_checkIndex_df160 0 = .ok (.iload_n 0, 1) := by decide +kernel
theorem dJ0_checkIndex_df160_1 : decode cJ0_checkIndex_df160 1 = .ok (.iload_n 1, 1) := by decide +kernel
theorem dJ0_checkIndex_df160_2 : decode cJ0_checkIndex_df160 2 = .ok (.getstatic 1053, 3) := by decide +kernel
theorem dJ0_checkIndex_df160_5 : decode cJ0_checkIndex_df160 5 = .ok (.invokestatic 1059, 3) := by decide +kernel
theorem dJ0_checkIndex_df160_8 : decode cJ0_checkIndex_df160 8 = .ok (.pop, 1) := by decide +kernel
theorem dJ0_checkIndex_df160_9 : decode cJ0_checkIndex_df160 9 = .ok (.return_, 1) := by decide +kernel
theorem dJ1_charAt_3b067_0 : decode cJ1_charAt_3b067 0 = .ok (.iload_n 1, 1) := by decide +kernel
theorem dJ1_charAt_3b067_1 : decode cJ1_charAt_3b067 1 = .ok (.aload_n 0, 1) := by decide +kernel
theorem dJ1_charAt_3b067_2 : decode cJ1_charAt_3b067 2 = .ok (.arraylength, 1) := by decide +kernel
theorem dJ1_charAt_3b067_3 : decode cJ1_charAt_3b067 3 = .ok (.invokestatic 9, 3) := by decide +kernel
theorem dJ1_charAt_3b067_6 : decode cJ1_charAt_3b067 6 = .ok (.aload_n 0, 1) := by decide +kernel
theorem dJ1_charAt_3b067_7 : decode cJ1_charAt_3b067 7 = .ok (.iload_n 1, 1) := by decide +kernel
theorem dJ1_charAt_3b067_8 : decode cJ1_charAt_3b067 8 = .ok (.baload, 1) := by decide +kernel
theorem dJ1_charAt_3b067_9 : decode cJ1_charAt_3b067 9 = .ok (.sipush 255, 3) := by decide +kernel
theorem dJ1_charAt_3b067_12 : decode cJ1_charAt_3b067 12 = .ok (.iand, 1) := by decide +kernel
theorem dJ1_charAt_3b067_13 : decode cJ1_charAt_3b067 13 = .ok (.i2c, 1) := by decide +kernel
theorem dJ1_charAt_3b067_14 : decode cJ1_charAt_3b067 14 = .ok (.ireturn, 1) := by decide +kernel
theorem dJ3_checkIndex_8e157_0 : decode cJ3_checkIndex_8e157 0 = .ok (.iload_n 0, 1) := by decide +kernel
theorem dJ3_checkIndex_8e157_1 : decode cJ3_checkIndex_8e157 1 = .ok (.ifCond .lt 8, 3) := by decide +kernel
theorem dJ3_checkIndex_8e157_4 : decode cJ3_checkIndex_8e157 4 = .ok (.iload_n 0, 1) := by decide +kernel
theorem dJ3_checkIndex_8e157_5 : decode cJ3_checkIndex_8e157 5 = .ok (.iload_n 1, 1) := by decide +kernel
theorem dJ3_checkIndex_8e157_6 : decode cJ3_checkIndex_8e157 6 = .ok (.if_icmp .lt 10, 3) := by decide +kernel
theorem dJ3_checkIndex_8e157_9 : decode cJ3_checkIndex_8e157 9 = .ok (.aload_n 2, 1) := by decide +kernel
theorem dJ3_checkIndex_8e157_10 : decode cJ3_checkIndex_8e157 10 = .ok (.iload_n 0, 1) := by decide +kernel
theorem dJ3_checkIndex_8e157_11 : decode cJ3_checkIndex_8e157 11 = .ok (.iload_n 1, 1) := by decide +kernel
theorem dJ3_checkIndex_8e157_12 : decode cJ3_checkIndex_8e157 12 = .ok (.invokestatic 95, 3) := by decide +kernel
theorem dJ3_checkIndex_8e157_15 : decode cJ3_checkIndex_8e157 15 = .ok (.athrow, 1) := by decide +kernel
theorem dJ3_checkIndex_8e157_16 : decode cJ3_checkIndex_8e157 16 = .ok (.iload_n 0, 1) := by decide +kernel
theorem dJ3_checkIndex_8e157_17 : decode cJ3_checkIndex_8e157 17 = .ok (.ireturn, 1) := by decide +kernel
abbrev cwJ0_length_8abf5 : Cond := .code yJ0_length_8abf5 cJ0_length_8abf5 1 (some .int)
theorem cmJ0_length_8abf5 : cwJ0_length_8abf5 ∈ BIG := (tb1 (List.mem_of_getElem? (i := 50) rfl) rfl)
theorem pdJ0_length_8abf5 : yJ0_length_8abf5.cls ≠ "java/lang/invoke/MethodHandle" ∧ yJ0_length_8abf5.cls ≠ "java/lang/invoke/VarHandle" ∧ (parseMethodDescriptor yJ0_length_8abf5.desc).map (fun d => d.parameters.length) = some 0 := by decide +kernel
abbrev cwJ0_charAt_5068e : Cond := .code yJ0_charAt_5068e cJ0_charAt_5068e 2 (some .char)
theorem cmJ0_charAt_5068e : cwJ0_charAt_5068e ∈ BIG := (tb1 (List.mem_of_getElem? (i := 60) rfl) rfl)
theorem pdJ0_charAt_5068e : yJ0_charAt_5068e.cls ≠ "java/lang/invoke/MethodHandle" ∧ yJ0_charAt_5068e.cls ≠ "java/lang/invoke/VarHandle" ∧ (parseMethodDescriptor yJ0_charAt_5068e.desc).map (fun d => d.parameters.length) = some 1 := by decide +kernel
abbrev cwJ0_coder_7d493 : Cond := .code yJ0_coder_7d493 cJ0_coder_7d493 1 (some .byte)
theorem cmJ0_coder_7d493 : cwJ0_coder_7d493 ∈ BIG := (tb1 (List.mem_of_getElem? (i := 54) rfl) rfl)
theorem pdJ0_coder_7d493 : yJ0_coder_7d493.cls ≠ "java/lang/invoke/MethodHandle" ∧ yJ0_coder_7d493.cls ≠ "java/lang/invoke/VarHandle" ∧ (parseMethodDescriptor yJ0_coder_7d493.desc).map (fun d => d.parameters.length) = some 0 := by decide +kernel
abbrev cwJ0_isLatin1_aae02 : Cond := .code yJ0_isLatin1_aae02 cJ0_isLatin1_aae02 1 (some .boolean)
theorem cmJ0_isLatin1_aae02 : cwJ0_isLatin1_aae02 ∈ BIG := (tb1 (List.mem_of_getElem? (i := 64) rfl) rfl)
theorem pdJ0_isLatin1_aae02 : yJ0_isLatin1_aae02.cls ≠ "java/lang/invoke/MethodHandle" ∧ yJ0_isLatin1_aae02.cls ≠ "java/lang/invoke/VarHandle" ∧ (parseMethodDescriptor yJ0_isLatin1_aae02.desc).map (fun d => d.parameters.length) = some 0 := by decide +kernel
abbrev cwJ0_checkIndex_df160 : Cond := .code yJ0_checkIndex_df160 cJ0_checkIndex_df160 2 none
theorem cmJ0_checkIndex_df160 : cwJ0_checkIndex_df160 ∈ BIG := (tb1 (List.mem_of_getElem? (i := 70) rfl) rfl)
theorem pdJ0_checkIndex_df160 : yJ0_checkIndex_df160.cls ≠ "java/lang/invoke/MethodHandle" ∧ yJ0_checkIndex_df160.cls ≠ "java/lang/invoke/VarHandle" ∧ (parseMethodDescriptor yJ0_checkIndex_df160.desc).map (fun d => d.parameters.length) = some 2 := by decide +kernel
abbrev cwJ1_charAt_3b067 : Cond := .code yJ1_charAt_3b067 cJ1_charAt_3b067 2 (some .char)
theorem cmJ1_charAt_3b067 : cwJ1_charAt_3b067 ∈ BIG := (tb1 (List.mem_of_getElem? (i := 67) rfl) rfl)
theorem pdJ1_charAt_3b067 : yJ1_charAt_3b067.cls ≠ "java/lang/invoke/MethodHandle" ∧ yJ1_charAt_3b067.cls ≠ "java/lang/invoke/VarHandle" ∧ (parseMethodDescriptor yJ1_charAt_3b067.desc).map (fun d => d.parameters.length) = some 2 := by decide +kernel
abbrev cwJ3_checkIndex_8e157 : Cond := .code yJ3_checkIndex_8e157 cJ3_checkIndex_8e157 3 (some .int)
theorem cmJ3_checkIndex_8e157 : cwJ3_checkIndex_8e157 ∈ BIG := (tb1 (List.mem_of_getElem? (i := 75) rfl) rfl)
theorem pdJ3_checkIndex_8e157 : yJ3_checkIndex_8e157.cls ≠ "java/lang/invoke/MethodHandle" ∧ yJ3_checkIndex_8e157.cls ≠ "java/lang/invoke/VarHandle" ∧ (parseMethodDescriptor yJ3_checkIndex_8e157.desc).map (fun d => d.parameters.length) = some 3 := by decide +kernel
theorem mdJ0_335 : MD RJ0 335 yJ0_coder_7d493 cwJ0_coder_7d493 0 := ⟨(tb1 (List.mem_of_getElem? (i := 51) rfl) rfl), (tb1 (List.mem_of_getElem? (i := 52) rfl) rfl), (tb1 (List.mem_of_getElem? (i := 53) rfl) rfl), (tb1 (List.mem_of_getElem? (i := 4) rfl) rfl), cmJ0_coder_7d493, pdJ0_coder_7d493⟩
theorem mdJ0_492 : MD RJ0 492 yJ0_isLatin1_aae02 cwJ0_isLatin1_aae02 0 := ⟨(tb1 (List.mem_of_getElem? (i := 61) rfl) rfl), (tb1 (List.mem_of_getElem? (i := 62) rfl) rfl), (tb1 (List.mem_of_getElem? (i := 63) rfl) rfl), (tb1 (List.mem_of_getElem? (i := 4) rfl) rfl), cmJ0_isLatin1_aae02, pdJ0_isLatin1_aae02⟩
theorem msJ0_495 : MS RJ0 495 yJ1_charAt_3b067 cwJ1_charAt_3b067 2 := ⟨(tb1 (List.mem_of_getElem? (i := 65) rfl) rfl), (tb1 (List.mem_of_getElem? (i := 66) rfl) rfl), (tb1 (List.mem_of_getElem? (i := 5) rfl) rfl), cmJ1_charAt_3b067, pdJ1_charAt_3b067⟩
theorem msJ1_9 : MS RJ1 9 yJ0_checkIndex_df160 cwJ0_checkIndex_df160 2 := ⟨(tb1 (List.mem_of_getElem? (i := 68) rfl) rfl), (tb1 (List.mem_of_getElem? (i := 69) rfl) rfl), (tb1 (List.mem_of_getElem? (i := 4) rfl) rfl), cmJ0_checkIndex_df160, pdJ0_checkIndex_df160⟩
theorem msJ0_1059 : MS RJ0 1059 yJ3_checkIndex_8e157 cwJ3_checkIndex_8e157 3 := ⟨(tb1 (List.mem_of_getElem? (i := 73) rfl) rfl), (tb1 (List.mem_of_getElem? (i := 74) rfl) rfl), (tb1 (List.mem_of_getElem? (i := 6) rfl) rfl), cmJ3_checkIndex_8e157, pdJ3_checkIndex_8e157⟩
theorem mdX12_199 : MD RX12 199 yJ0_length_8abf5 cwJ0_length_8abf5 0 := ⟨(tb7 (List.mem_of_getElem? (i := 26) rfl) rfl), (tb1 (List.mem_of_getElem? (i := 48) rfl) rfl), (tb1 (List.mem_of_getElem? (i := 49) rfl) rfl), (tb1 (List.mem_of_getElem? (i := 4) rfl) rfl), cmJ0_length_8abf5, pdJ0_length_8abf5⟩
theorem mdX12_204 : MD RX12 204 yJ0_charAt_5068e cwJ0_charAt_5068e 1 := ⟨(tb7 (List.mem_of_getElem? (i := 27) rfl) rfl), (tb1 (List.mem_of_getElem? (i := 58) rfl) rfl), (tb1 (List.mem_of_getElem? (i := 59) rfl) rfl), (tb1 (List.mem_of_getElem? (i := 4) rfl) rfl), cmJ0_charAt_5068e, pdJ0_charAt_5068e⟩
theorem mdX10_19 : MD RX10 19 yJ0_length_8abf5 cwJ0_length_8abf5 0 := ⟨(tb1 (List.mem_of_getElem? (i := 47) rfl) rfl), (tb1 (List.mem_of_getElem? (i := 48) rfl) rfl), (tb1 (List.mem_of_getElem? (i := 49) rfl) rfl), (tb1 (List.mem_of_getElem? (i := 4) rfl) rfl), cmJ0_length_8abf5, pdJ0_length_8abf5⟩
theorem mdX10_25 : MD RX10 25 yJ0_charAt_5068e cwJ0_charAt_5068e 1 := ⟨(tb1 (List.mem_of_getElem? (i := 57) rfl) rfl), (tb1 (List.mem_of_getElem? (i := 58) rfl) rfl), (tb1 (List.mem_of_getElem? (i := 59) rfl) rfl), (tb1 (List.mem_of_getElem? (i := 4) rfl) rfl), cmJ0_charAt_5068e, pdJ0_charAt_5068e⟩
theorem lkJ0_38 : Cond.fieldLink RJ0 38 "java/lang/String" "COMPACT_STRINGS" "Z" ∈ BIG := (tb1 (List.mem_of_getElem? (i := 55) rfl) rfl)
theorem lkJ0_15 : Cond.fieldLink RJ0 15 "java/lang/String" "coder" "B" ∈ BIG := (tb8 (List.mem_of_getElem? (i := 225) rfl) rfl)
theorem lkJ0_9 : Cond.fieldLink RJ0 9 "java/lang/String" "value" "[B" ∈ BIG := (tb8 (List.mem_of_getElem? (i := 224) rfl) rfl)
theorem lkJ0_1053 : Cond.fieldLink RJ0 1053 "jdk/internal/util/Preconditions" "SIOOBE_FORMATTER" "Ljava/util/function/BiFunction;" ∈ BIG := (tb1 (List.mem_of_getElem? (i := 71) rfl) rfl)
def lenS (i : Nat) : Nat := [106, 107].getD i 0
def chS (i k : Nat) : Int32 := (([bytT, bytM].getD i []).getD k 0) &&& 255
section STR
variable {p : Program} {l : Launch} {e : Env} {R : Room} {s : State} {mm : MethodId} {args : Array Value} {below : List Frame} {meth : Method} {c : Code} {H : Heap} {locs : List Loc} {Q : State → Prop}
variable {cc : ByteArray} {nL : Nat} {own : String} {D : va_G} {ca : Nat → ClassId} {ad : Nat → Nat} {A : Nat → Prop} {m : Mem} {pc : Nat} {ls : Array Slot} {rest : List Value}
theorem rT {v r : Int32} {m' : Mem} {ty : FieldType} (X : CX p s mm args meth c cc nL own D ca ad (WA ca ad s.heap.size)) (hI : IW D ca ad (WA ca ad s.heap.size) s m H locs) (hr : meth.sig.returnType = some ty) (hv : narrow ty (.int v) = .int v) (h1 : v = r) (h2 : m = m') (hdg : decode cc pc = .ok (.ireturn, 1)) :
    W p l e R s mm args below meth c H locs 0 0 (MQ below (QI D ca ad s.heap.size r m') args s 0 0 (WA ca ad s.heap.size)) (F0 mm pc ls [.int v]) := by
  subst h1; subst h2
  have hlocks : meth.locks = false := X.2.2.2.2.2.2.2.2.2.1
  exact W.zret X.1 X.2.1 hr hv (fun t ht hW => ⟨⟨v, m, rfl, ⟨rfl, rfl⟩, by rw [ht]; exact hI.1, va_K.moved hW.alike X.2.2.2.2.2.1⟩, hI.2.F ht⟩) hI.2.2.2 hdg
theorem runT {y : MethodName} {bytes : ByteArray} {maxL idx n b i : Nat} {ret : Option FieldType} {rm : Room} {As : List Value} {st0 : List Value} {Qc : Array Value → State → Outcome → State → Prop} (X : CX p s mm args meth c cc nL own D ca ad A) (hI : IW D ca ad A s m H locs) (hi : i < 2) (hb : b = ca (4 + i)) (hM : Met l y (Cond.code y bytes maxL ret :: BIG) rm (va_Pc (.ref b :: As) (PW D ca ad m H.size)) Qc 0 0 (WA ca ad H.size)) (hm : MD own idx y (Cond.code y bytes maxL ret) n) (hci : y.cls = "java/lang/String")
    (hc : rm.cells = 0 ∧ rm.slots = 0) (hR : rm.frames + 1 ≤ R.frames ∧ 8 + (maxL + 11) + rm.locals ≤ R.locals) (hn : As.length = n) (hz : ls.size = nL) (hst : st0 = As.reverse ++ .ref b :: rest) (hW : (rest.map fun v => v.category).sum ≤ 8) (hdg : decode cc pc = .ok (.invokevirtual idx, 3)) :
    va_Run p l e R s mm args below meth c H locs 0 0 0 0 (F0 mm pc ls st0) rest (Qc (Value.ref b :: As).toArray) (WA ca ad H.size) := by
  obtain ⟨h1, h2, h3, h4, h5, h6⟩ := hm
  have hts := X.2.2.2.2.1
  refine va_runV (Ts := BIG) (C := y.cls) ⟨X.1, X.2.1, X.2.2.1, X.2.2.2.1, hts⟩ hM ⟨cb_of X h1 h4 h5 h6 hc hR, hts _ h2, hts _ h3⟩ ⟨pw_blind, ?_, pw_at X hI⟩ rfl hn hz hst (lv_room hW) hdg ⟨Nat.zero_le _, Nat.zero_le _⟩
  rw [hci, hb]
  exact vk_recv (adK := fun i => ca (4 + i)) (i := i) X.2.2.2.2.2.2.2.2.2.2.1 hi hI.2
end STR
abbrev rmZ0 : Room := { frames := 0, cells := 0, slots := 0, locals := 0 }
abbrev rmJ0_checkIndex : Room := { frames := 1, cells := 0, slots := 0, locals := 22 }
abbrev rmJ1_charAt : Room := { frames := 2, cells := 0, slots := 0, locals := 43 }
abbrev rmJ0_charAt : Room := { frames := 3, cells := 0, slots := 0, locals := 64 }
abbrev rmJ0_length : Room := { frames := 1, cells := 0, slots := 0, locals := 20 }
set_option maxHeartbeats 4000000 in
set_option maxRecDepth 100000 in
theorem sJ0_isLatin1 {l : Launch} {D : va_G} {ca : Nat → ClassId} {ad : Nat → Nat} (i : Nat) (hi : i < 2) (m : Mem) : CI l D ca ad yJ0_isLatin1_aae02 cwJ0_isLatin1_aae02 rmZ0 [.ref (ca (4 + i))] m 1 m := by
  refine start (by decide) (Nat.le_of_ble_eq_true rfl) ?_
  intro p e s mm args below meth c H locs ls X hI hr hl
  have X : CX p s mm args meth c cJ0_isLatin1_aae02 1 RJ0 D ca ad (WA ca ad s.heap.size) := X
  have hx := X.1
  have hb := X.2.1
  have hts := X.2.2.2.2.1
  have hsk := X.2.2.2.2.2.2.2.2.2.2
  have hl : lv_has ls 1 [(0, .ref (ca (4 + i)))] := hl
  refine va_gets hx hb hsk.2.1 hI.2 X.2.2.2.1 (hts _ lkJ0_38) (fun _ h => h) dJ0_isLatin1_aae02_0 ?_
  refine lv_if_eq (tgt := 17) hx hb dJ0_isLatin1_aae02_3 (by decide) (fun c1 => absurd c1 (by decide)) (fun c1 => ?_)
  refine lv_aload_n hx hb dJ0_isLatin1_aae02_6 rfl (lv_at hl 0 rfl) ?_
  refine vk_getf hx hb (hsk.1.1 i hi).2.1 hI.2 X.2.2.2.1 (hts _ lkJ0_15) (fun _ h => h) dJ0_isLatin1_aae02_7 ?_
  refine lv_if_ne (tgt := 17) hx hb dJ0_isLatin1_aae02_10 (by decide) (fun c1 => absurd rfl c1) (fun c1 => ?_)
  refine lv_iconst (v := 1) hx hb dJ0_isLatin1_aae02_13 (by decide) ?_
  refine lv_goto (tgt := 18) hx hb dJ0_isLatin1_aae02_14 (by decide) ?_
  exact rZ X hI hr (by decide) rfl rfl dJ0_isLatin1_aae02_18
set_option maxHeartbeats 4000000 in
set_option maxRecDepth 100000 in
theorem sJ0_coder {l : Launch} {D : va_G} {ca : Nat → ClassId} {ad : Nat → Nat} (i : Nat) (hi : i < 2) (m : Mem) : CI l D ca ad yJ0_coder_7d493 cwJ0_coder_7d493 rmZ0 [.ref (ca (4 + i))] m 0 m := by
  refine start (by decide) (Nat.le_of_ble_eq_true rfl) ?_
  intro p e s mm args below meth c H locs ls X hI hr hl
  have X : CX p s mm args meth c cJ0_coder_7d493 1 RJ0 D ca ad (WA ca ad s.heap.size) := X
  have hx := X.1
  have hb := X.2.1
  have hts := X.2.2.2.2.1
  have hsk := X.2.2.2.2.2.2.2.2.2.2
  have hl : lv_has ls 1 [(0, .ref (ca (4 + i)))] := hl
  refine va_gets hx hb hsk.2.1 hI.2 X.2.2.2.1 (hts _ lkJ0_38) (fun _ h => h) dJ0_coder_7d493_0 ?_
  refine lv_if_eq (tgt := 13) hx hb dJ0_coder_7d493_3 (by decide) (fun c1 => absurd c1 (by decide)) (fun c1 => ?_)
  refine lv_aload_n hx hb dJ0_coder_7d493_6 rfl (lv_at hl 0 rfl) ?_
  refine vk_getf hx hb (hsk.1.1 i hi).2.1 hI.2 X.2.2.2.1 (hts _ lkJ0_15) (fun _ h => h) dJ0_coder_7d493_7 ?_
  refine lv_goto (tgt := 14) hx hb dJ0_coder_7d493_10 (by decide) ?_
  exact rT X hI hr (by decide) rfl rfl dJ0_coder_7d493_14
set_option maxHeartbeats 4000000 in
set_option maxRecDepth 100000 in
theorem sJ3_checkIndex {l : Launch} {D : va_G} {ca : Nat → ClassId} {ad : Nat → Nat} (k n : Int32) (q : Nat) (h1 : ¬ k < 0) (h2 : k < n) (m : Mem) : CI l D ca ad yJ3_checkIndex_8e157 cwJ3_checkIndex_8e157 rmZ0 [.int k, .int n, .ref q] m k m := by
  refine start (by decide) (Nat.le_of_ble_eq_true rfl) ?_
  intro p e s mm args below meth c H locs ls X hI hr hl
  have X : CX p s mm args meth c cJ3_checkIndex_8e157 3 RJ3 D ca ad (WA ca ad s.heap.size) := X
  have hx := X.1
  have hb := X.2.1
  have hl : lv_has ls 3 [(0, .int k), (1, .int n), (2, .ref q)] := hl
  refine lv_iload_n hx hb dJ3_checkIndex_8e157_0 rfl (lv_at hl 0 rfl) ?_
  refine lv_if_lt (tgt := 9) hx hb dJ3_checkIndex_8e157_1 (by decide) (fun c1 => absurd c1 h1) (fun c1 => ?_)
  refine lv_iload_n hx hb dJ3_checkIndex_8e157_4 rfl (lv_at hl 0 rfl) ?_
  refine lv_iload_n hx hb dJ3_checkIndex_8e157_5 rfl (lv_at hl 1 rfl) ?_
  refine lv_icmp_lt (tgt := 16) hx hb dJ3_checkIndex_8e157_6 (by decide) (fun c2 => ?_) (fun c2 => absurd h2 c2)
  refine lv_iload_n hx hb dJ3_checkIndex_8e157_16 rfl (lv_at hl 0 rfl) ?_
  exact rI X hI hr rfl rfl dJ3_checkIndex_8e157_17
set_option maxHeartbeats 4000000 in
set_option maxRecDepth 100000 in
theorem sJ3_checkIndexN {l : Launch} {D : va_G} {ca : Nat → ClassId} {ad : Nat → Nat} (k n : Int32) (h1 : ¬ k < 0) (h2 : k < n) (m : Mem) : CI l D ca ad yJ3_checkIndex_8e157 cwJ3_checkIndex_8e157 rmZ0 [.int k, .int n, .null] m k m := by
  refine start (by decide) (Nat.le_of_ble_eq_true rfl) ?_
  intro p e s mm args below meth c H locs ls X hI hr hl
  have X : CX p s mm args meth c cJ3_checkIndex_8e157 3 RJ3 D ca ad (WA ca ad s.heap.size) := X
  have hx := X.1
  have hb := X.2.1
  have hl : lv_has ls 3 [(0, .int k), (1, .int n), (2, .null)] := hl
  refine lv_iload_n hx hb dJ3_checkIndex_8e157_0 rfl (lv_at hl 0 rfl) ?_
  refine lv_if_lt (tgt := 9) hx hb dJ3_checkIndex_8e157_1 (by decide) (fun c1 => absurd c1 h1) (fun c1 => ?_)
  refine lv_iload_n hx hb dJ3_checkIndex_8e157_4 rfl (lv_at hl 0 rfl) ?_
  refine lv_iload_n hx hb dJ3_checkIndex_8e157_5 rfl (lv_at hl 1 rfl) ?_
  refine lv_icmp_lt (tgt := 16) hx hb dJ3_checkIndex_8e157_6 (by decide) (fun c2 => ?_) (fun c2 => absurd h2 c2)
  refine lv_iload_n hx hb dJ3_checkIndex_8e157_16 rfl (lv_at hl 0 rfl) ?_
  exact rI X hI hr rfl rfl dJ3_checkIndex_8e157_17
set_option maxHeartbeats 4000000 in
set_option maxRecDepth 100000 in
theorem sJ0_checkIndex {l : Launch} {D : va_G} {ca : Nat → ClassId} {ad : Nat → Nat} (k n : Int32) (h1 : ¬ k < 0) (h2 : k < n) (m : Mem) : CV l D ca ad yJ0_checkIndex_df160 cwJ0_checkIndex_df160 rmJ0_checkIndex [.int k, .int n] m m := by
  refine start (by decide) (Nat.le_of_ble_eq_true rfl) ?_
  intro p e s mm args below meth c H locs ls X hI hr hl
  have X : CX p s mm args meth c cJ0_checkIndex_df160 2 RJ0 D ca ad (WA ca ad s.heap.size) := X
  have hx := X.1
  have hb := X.2.1
  have hts := X.2.2.2.2.1
  have hsk := X.2.2.2.2.2.2.2.2.2.2
  have hl : lv_has ls 2 [(0, .int k), (1, .int n)] := hl
  refine lv_iload_n hx hb dJ0_checkIndex_df160_0 rfl (lv_at hl 0 rfl) ?_
  refine lv_iload_n hx hb dJ0_checkIndex_df160_1 rfl (lv_at hl 1 rfl) ?_
  rcases hsk.2.2.1 with hz | ⟨t, hz⟩
  · refine va_gets hx hb hz hI.2 X.2.2.2.1 (hts _ lkJ0_1053) (fun _ h => h) dJ0_checkIndex_df160_2 ?_
    refine backI X hI (runS X hI (sJ3_checkIndexN k n h1 h2 m _) msJ0_1059 ⟨rfl, rfl⟩ ⟨Nat.le_of_ble_eq_true rfl, Nat.le_of_ble_eq_true rfl⟩ rfl hl.1 rfl (Nat.le_of_ble_eq_true rfl) dJ0_checkIndex_df160_5) (fun H locs hI => ?_)
    refine lv_pop hx hb dJ0_checkIndex_df160_8 rfl ?_
    exact rV X hI hr rfl dJ0_checkIndex_df160_9
  · refine va_gets hx hb hz hI.2 X.2.2.2.1 (hts _ lkJ0_1053) (fun _ h => h) dJ0_checkIndex_df160_2 ?_
    refine backI X hI (runS X hI (sJ3_checkIndex k n t h1 h2 m _) msJ0_1059 ⟨rfl, rfl⟩ ⟨Nat.le_of_ble_eq_true rfl, Nat.le_of_ble_eq_true rfl⟩ rfl hl.1 rfl (Nat.le_of_ble_eq_true rfl) dJ0_checkIndex_df160_5) (fun H locs hI => ?_)
    refine lv_pop hx hb dJ0_checkIndex_df160_8 rfl ?_
    exact rV X hI hr rfl dJ0_checkIndex_df160_9
theorem idx_lt {k : Int32} {n : Nat} (hn : n < 2 ^ 31) (h : ¬ (k < 0 ∨ n ≤ k.toNatClampNeg)) : ¬ k < 0 ∧ k < Int32.ofNat n := by
  obtain ⟨j, h1, h2⟩ := vp_in_of (x := k) (n := n) h hn
  refine ⟨fun q => h (Or.inl q), ?_⟩
  rw [h2]
  exact nI_lt h1 hn
set_option maxHeartbeats 4000000 in
set_option maxRecDepth 100000 in
theorem sJ1_charAt {l : Launch} {D : va_G} {ca : Nat → ClassId} {ad : Nat → Nat} (i : Nat) (hi : i < 2) (k : Int32) (hk : ¬ (k < 0 ∨ lenS i ≤ k.toNatClampNeg)) (m : Mem) : CI l D ca ad yJ1_charAt_3b067 cwJ1_charAt_3b067 rmJ1_charAt [.ref (ca (6 + i)), .int k] m (chS i k.toNatClampNeg) m := by
  refine start (by decide) (Nat.le_of_ble_eq_true rfl) ?_
  intro p e s mm args below meth c H locs ls X hI hr hl
  have X : CX p s mm args meth c cJ1_charAt_3b067 2 RJ1 D ca ad (WA ca ad s.heap.size) := X
  have hx := X.1
  have hb := X.2.1
  have hts := X.2.2.2.2.1
  have hsk := X.2.2.2.2.2.2.2.2.2.2
  have hlen : lenS i < 2 ^ 31 := by rcases (show i = 0 ∨ i = 1 by omega) with rfl | rfl <;> decide
  have hl : lv_has ls 2 [(0, .ref (ca (6 + i))), (1, .int k)] := hl
  refine lv_iload_n hx hb dJ1_charAt_3b067_0 rfl (lv_at hl 1 rfl) ?_
  refine lv_aload_n hx hb dJ1_charAt_3b067_1 rfl (lv_at hl 0 rfl) ?_
  refine va_tlen (v := Int32.ofNat (lenS i)) hx hb (hsk.1.1 i hi).2.2.2 hI.2 rfl dJ1_charAt_3b067_2 ?_
  refine backV X hI (runS X hI (sJ0_checkIndex k (Int32.ofNat (lenS i)) (idx_lt hlen hk).1 (idx_lt hlen hk).2 m _) msJ1_9 ⟨rfl, rfl⟩ ⟨Nat.le_of_ble_eq_true rfl, Nat.le_of_ble_eq_true rfl⟩ rfl hl.1 rfl (Nat.le_of_ble_eq_true rfl) dJ1_charAt_3b067_3) (fun H locs hI => ?_)
  refine lv_aload_n hx hb dJ1_charAt_3b067_6 rfl (lv_at hl 0 rfl) ?_
  refine lv_iload_n hx hb dJ1_charAt_3b067_7 rfl (lv_at hl 1 rfl) ?_
  refine va_tb hx hb (hsk.1.1 i hi).2.2.2 hI.2 hk rfl dJ1_charAt_3b067_8 ?_
  refine lv_sipush (v := 255) hx hb dJ1_charAt_3b067_9 (by decide) ?_
  refine lv_iand hx hb dJ1_charAt_3b067_12 ?_
  refine lv_i2c hx hb dJ1_charAt_3b067_13 (sc_c2 _) ?_
  exact rT X hI hr (sc_nar _) rfl rfl dJ1_charAt_3b067_14
set_option maxHeartbeats 4000000 in
set_option maxRecDepth 100000 in
theorem sJ0_charAt {l : Launch} {D : va_G} {ca : Nat → ClassId} {ad : Nat → Nat} (i : Nat) (hi : i < 2) (k : Int32) (hk : ¬ (k < 0 ∨ lenS i ≤ k.toNatClampNeg)) (m : Mem) : CI l D ca ad yJ0_charAt_5068e cwJ0_charAt_5068e rmJ0_charAt [.ref (ca (4 + i)), .int k] m (chS i k.toNatClampNeg) m := by
  refine start (by decide) (Nat.le_of_ble_eq_true rfl) ?_
  intro p e s mm args below meth c H locs ls X hI hr hl
  have X : CX p s mm args meth c cJ0_charAt_5068e 2 RJ0 D ca ad (WA ca ad s.heap.size) := X
  have hx := X.1
  have hb := X.2.1
  have hts := X.2.2.2.2.1
  have hsk := X.2.2.2.2.2.2.2.2.2.2
  have hl : lv_has ls 2 [(0, .ref (ca (4 + i))), (1, .int k)] := hl
  refine lv_aload_n hx hb dJ0_charAt_5068e_0 rfl (lv_at hl 0 rfl) ?_
  refine backI X hI (runT X hI hi rfl (sJ0_isLatin1 i hi m _) mdJ0_492 rfl ⟨rfl, rfl⟩ ⟨Nat.le_of_ble_eq_true rfl, Nat.le_of_ble_eq_true rfl⟩ rfl hl.1 rfl (Nat.le_of_ble_eq_true rfl) dJ0_charAt_5068e_1) (fun H locs hI => ?_)
  refine lv_if_eq (tgt := 16) hx hb dJ0_charAt_5068e_4 (by decide) (fun c1 => absurd c1 (by decide)) (fun c1 => ?_)
  refine lv_aload_n hx hb dJ0_charAt_5068e_7 rfl (lv_at hl 0 rfl) ?_
  refine vk_getf hx hb (hsk.1.1 i hi).2.2.1 hI.2 X.2.2.2.1 (hts _ lkJ0_9) (fun _ h => h) dJ0_charAt_5068e_8 ?_
  refine lv_iload_n hx hb dJ0_charAt_5068e_11 rfl (lv_at hl 1 rfl) ?_
  refine backI X hI (runS X hI (sJ1_charAt i hi k hk m _) msJ0_495 ⟨rfl, rfl⟩ ⟨Nat.le_of_ble_eq_true rfl, Nat.le_of_ble_eq_true rfl⟩ rfl hl.1 rfl (Nat.le_of_ble_eq_true rfl) dJ0_charAt_5068e_12) (fun H locs hI => ?_)
  exact rT X hI hr (sc_nar _) rfl rfl dJ0_charAt_5068e_15
set_option maxHeartbeats 4000000 in
set_option maxRecDepth 100000 in
theorem sJ0_length {l : Launch} {D : va_G} {ca : Nat → ClassId} {ad : Nat → Nat} (i : Nat) (hi : i < 2) (m : Mem) : CI l D ca ad yJ0_length_8abf5 cwJ0_length_8abf5 rmJ0_length [.ref (ca (4 + i))] m (Int32.ofNat (lenS i)) m := by
  refine start (by decide) (Nat.le_of_ble_eq_true rfl) ?_
  intro p e s mm args below meth c H locs ls X hI hr hl
  have X : CX p s mm args meth c cJ0_length_8abf5 1 RJ0 D ca ad (WA ca ad s.heap.size) := X
  have hx := X.1
  have hb := X.2.1
  have hts := X.2.2.2.2.1
  have hsk := X.2.2.2.2.2.2.2.2.2.2
  have hl : lv_has ls 1 [(0, .ref (ca (4 + i)))] := hl
  refine lv_aload_n hx hb dJ0_length_8abf5_0 rfl (lv_at hl 0 rfl) ?_
  refine vk_getf hx hb (hsk.1.1 i hi).2.2.1 hI.2 X.2.2.2.1 (hts _ lkJ0_9) (fun _ h => h) dJ0_length_8abf5_1 ?_
  refine va_tlen (v := Int32.ofNat (lenS i)) hx hb (hsk.1.1 i hi).2.2.2 hI.2 rfl dJ0_length_8abf5_4 ?_
  refine lv_aload_n hx hb dJ0_length_8abf5_5 rfl (lv_at hl 0 rfl) ?_
  refine backI X hI (runT X hI hi rfl (sJ0_coder i hi m _) mdJ0_335 rfl ⟨rfl, rfl⟩ ⟨Nat.le_of_ble_eq_true rfl, Nat.le_of_ble_eq_true rfl⟩ rfl hl.1 rfl (Nat.le_of_ble_eq_true rfl) dJ0_length_8abf5_6) (fun H locs hI => ?_)
  refine lv_ishr hx hb dJ0_length_8abf5_9 ?_
  exact rI X hI hr (sb_shr0 _) rfl dJ0_length_8abf5_10

