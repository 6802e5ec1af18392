def imax (x y : Int32) : Int32 := if x < y then y else x
def imin (x y : Int32) : Int32 := if y < x then y else x
def lmax (x y : Int64) : Int64 := if y < x then x else y
def lmin (x y : Int64) : Int64 := if y < x then y else x
def labs (x : Int64) : Int64 := if 0 < x then x else -x
def jrem (x y : Int32) : Int32 := x - x / y * y
def jremL (x y : Int64) : Int64 := x - x / y * y
theorem g_p {α β : Type} {a : α} {b : β} {f : α × β} (h : some (a, b) = some f) : a = f.1 ∧ b = f.2 := by
  cases h
  exact ⟨rfl, rfl⟩
section PRIM
variable {p : Program} {l : Launch} {e : Env} {R : Room} {s : State} {mm : MethodId} {args : Array Value} {below : List Frame} {meth : Method} {c : Code} {H : Heap} {locs : List Loc} {Q : State → Prop}
variable {cc : ByteArray} {nL : Nat} {own : String} {D : va_G} {ca : Nat → ClassId} {ad : Nat → Nat} {A : Nat → Prop} {m : Mem} {pc : Nat} {ls : Array Slot} {rest : List Value} {idx : Nat}
theorem kMax {x y : Int32} (X : CX p s mm args meth c cc nL own D ca ad A) (h : Cond.methodLink own idx Lib.Math.max.name ∈ BIG) (hz : ls.size = nL) (hf : 1 ≤ R.frames) (hlo : (rest.map fun v => v.category).sum + 13 ≤ R.locals) (hdg : decode cc pc = .ok (.invokestatic idx, 3))
    (kk : W p l e R s mm args below meth c H locs 0 0 Q (F0 mm (pc + 3) ls (.int (imax x y) :: rest))) : W p l e R s mm args below meth c H locs 0 0 Q (F0 mm pc ls (.int y :: .int x :: rest)) :=
  have hts := X.2.2.2.2.1
  va_mmax X.1 X.2.1 (by rw [X.2.2.1, hz]) X.2.2.2.1 (hts _ h) (hts _ (tb4 (List.mem_of_getElem? (i := 149) rfl) rfl)) (hts _ (tb1 (List.mem_of_getElem? (i := 18) rfl) rfl)) (hts _ (tb4 (List.mem_of_getElem? (i := 150) rfl) rfl)) hf hlo (Nat.zero_le _) (Nat.zero_le _) hdg kk
theorem kMin {x y : Int32} (X : CX p s mm args meth c cc nL own D ca ad A) (h : Cond.methodLink own idx Lib.Math.min.name ∈ BIG) (hz : ls.size = nL) (hf : 1 ≤ R.frames) (hlo : (rest.map fun v => v.category).sum + 13 ≤ R.locals) (hdg : decode cc pc = .ok (.invokestatic idx, 3))
    (kk : W p l e R s mm args below meth c H locs 0 0 Q (F0 mm (pc + 3) ls (.int (imin x y) :: rest))) : W p l e R s mm args below meth c H locs 0 0 Q (F0 mm pc ls (.int y :: .int x :: rest)) :=
  have hts := X.2.2.2.2.1
  va_mmin X.1 X.2.1 (by rw [X.2.2.1, hz]) X.2.2.2.1 (hts _ h) (hts _ (tb3 (List.mem_of_getElem? (i := 118) rfl) rfl)) (hts _ (tb1 (List.mem_of_getElem? (i := 18) rfl) rfl)) (hts _ (tb3 (List.mem_of_getElem? (i := 119) rfl) rfl)) hf hlo (Nat.zero_le _) (Nat.zero_le _) hdg kk
theorem kMaxL {x y : Int64} (X : CX p s mm args meth c cc nL own D ca ad A) (h : Cond.methodLink own idx Lib.MathLoose.max_long.x ∈ BIG) (hz : ls.size = nL) (hf : 1 ≤ R.frames) (hlo : (rest.map fun v => v.category).sum + 15 ≤ R.locals) (hdg : decode cc pc = .ok (.invokestatic idx, 3))
    (kk : W p l e R s mm args below meth c H locs 0 0 Q (F0 mm (pc + 3) ls (.long (lmax x y) :: rest))) : W p l e R s mm args below meth c H locs 0 0 Q (F0 mm pc ls (.long y :: .long x :: rest)) :=
  have hts := X.2.2.2.2.1
  va_mmax_long X.1 X.2.1 (by rw [X.2.2.1, hz]) X.2.2.2.1 (hts _ h) (hts _ (tb8 (List.mem_of_getElem? (i := 23) rfl) rfl)) (hts _ (tb1 (List.mem_of_getElem? (i := 18) rfl) rfl)) (hts _ (tb8 (List.mem_of_getElem? (i := 24) rfl) rfl)) hf hlo (Nat.zero_le _) (Nat.zero_le _) hdg kk
theorem kMinL {x y : Int64} (X : CX p s mm args meth c cc nL own D ca ad A) (h : Cond.methodLink own idx Lib.MathLoose.min_long.x ∈ BIG) (hz : ls.size = nL) (hf : 1 ≤ R.frames) (hlo : (rest.map fun v => v.category).sum + 15 ≤ R.locals) (hdg : decode cc pc = .ok (.invokestatic idx, 3))
    (kk : W p l e R s mm args below meth c H locs 0 0 Q (F0 mm (pc + 3) ls (.long (lmin x y) :: rest))) : W p l e R s mm args below meth c H locs 0 0 Q (F0 mm pc ls (.long y :: .long x :: rest)) :=
  have hts := X.2.2.2.2.1
  va_mmin_long X.1 X.2.1 (by rw [X.2.2.1, hz]) X.2.2.2.1 (hts _ h) (hts _ (tb8 (List.mem_of_getElem? (i := 20) rfl) rfl)) (hts _ (tb1 (List.mem_of_getElem? (i := 18) rfl) rfl)) (hts _ (tb8 (List.mem_of_getElem? (i := 21) rfl) rfl)) hf hlo (Nat.zero_le _) (Nat.zero_le _) hdg kk
theorem kAbsL {x : Int64} (X : CX p s mm args meth c cc nL own D ca ad A) (h : Cond.methodLink own idx Lib.MathLoose.abs_long.x ∈ BIG) (hz : ls.size = nL) (hf : 1 ≤ R.frames) (hlo : (rest.map fun v => v.category).sum + 15 ≤ R.locals) (hdg : decode cc pc = .ok (.invokestatic idx, 3))
    (kk : W p l e R s mm args below meth c H locs 0 0 Q (F0 mm (pc + 3) ls (.long (labs x) :: rest))) : W p l e R s mm args below meth c H locs 0 0 Q (F0 mm pc ls (.long x :: rest)) :=
  have hts := X.2.2.2.2.1
  va_mabs_long X.1 X.2.1 (by rw [X.2.2.1, hz]) X.2.2.2.1 (hts _ h) (hts _ (tb7 (List.mem_of_getElem? (i := 189) rfl) rfl)) (hts _ (tb1 (List.mem_of_getElem? (i := 18) rfl) rfl)) (hts _ (tb7 (List.mem_of_getElem? (i := 190) rfl) rfl)) hf (Nat.le_trans (Nat.add_le_add_left (by decide) _) hlo) (Nat.zero_le _) (Nat.zero_le _) hdg kk
theorem kRem {x y : Int32} (hx : p.tables.exec = Jvm.exec) (hb : c.code = cc) (hdg : decode cc pc = .ok (.irem, 1)) (hne : ¬ y = 0) (kk : W p l e R s mm args below meth c H locs 0 0 Q (F0 mm (pc + 1) ls (.int (jrem x y) :: rest))) : W p l e R s mm args below meth c H locs 0 0 Q (F0 mm pc ls (.int y :: .int x :: rest)) := lv_irem hx hb hdg hne kk
theorem kRemL {x y : Int64} (hx : p.tables.exec = Jvm.exec) (hb : c.code = cc) (hdg : decode cc pc = .ok (.lrem, 1)) (hne : ¬ y = 0) (kk : W p l e R s mm args below meth c H locs 0 0 Q (F0 mm (pc + 1) ls (.long (jremL x y) :: rest))) : W p l e R s mm args below meth c H locs 0 0 Q (F0 mm pc ls (.long y :: .long x :: rest)) := lv_lrem hx hb hdg hne kk
theorem kCopy {a b n0 n1 : Nat} {sp dp n : Int32} (X : CX p s mm args meth c cc nL own D ca ad A) (hI : IW D ca ad A s m H locs) (h : Cond.methodLink own idx arraycopyName ∈ BIG) (hz : ls.size = nL) (hf : 1 ≤ R.frames) (hlo : (rest.map fun v => v.category).sum + (nativeFrameWords "java/lang/System" "arraycopy" 5 + 11) ≤ R.locals) (hla : ly ca a = (1, n0)) (hlb : ly ca b = (1, n1)) (hdg : decode cc pc = .ok (.invokestatic idx, 3))
    (hg : ¬ (sp < 0 ∨ dp < 0 ∨ n < 0 ∨ n0 < sp.toNatClampNeg + n.toNatClampNeg ∨ n1 < dp.toNatClampNeg + n.toNatClampNeg))
    (kk : ∀ H1 locs1, IW D ca ad A s (mC m a sp.toNatClampNeg b dp.toNatClampNeg n.toNatClampNeg) H1 locs1 → W p l e R s mm args below meth c H1 locs1 0 0 Q (F0 mm (pc + 3) ls rest)) : W p l e R s mm args below meth c H locs 0 0 Q (F0 mm pc ls (.int n :: .int dp :: .ref (ad b) :: .int sp :: .ref (ad a) :: rest)) := by
  have hts := X.2.2.2.2.1
  refine va_copyi X.1 X.2.1 (by rw [X.2.2.1, hz]) X.2.2.2.1 (hts _ h) (hts _ (tb4 (List.mem_of_getElem? (i := 84) rfl) rfl)) (hts _ (tb4 (List.mem_of_getElem? (i := 83) rfl) rfl)) (hts _ (tb1 (List.mem_of_getElem? (i := 24) rfl) rfl)) X.2.2.2.2.2.1 hI.1 (wD X) hI.2 (a - ca 10) (b - ca 10) 0 0 (ty := .int) (wl_i hla) (wl_i hlb) rfl rfl rfl (fun q => hg (Or.inl q)) (fun q => hg (Or.inr (Or.inl q))) (fun q => hg (Or.inr (Or.inr (Or.inl q)))) (Nat.le_of_not_lt fun q => hg (Or.inr (Or.inr (Or.inr (Or.inl q))))) (Nat.le_of_not_lt fun q => hg (Or.inr (Or.inr (Or.inr (Or.inr q))))) (fun _ _ => rfl) hf hlo hdg (fun H1 locs1 hP1 hD1 hS1 => kk H1 locs1 ⟨?_, hS1⟩)
  rw [← wl_setC hlb]
  exact hP1
theorem aIc {b n j : Nat} {i : Int32} (X : CX p s mm args meth c cc nL own D ca ad A) (hI : IW D ca ad A s m H locs) (hl : ly ca b = (1, n)) (hi : ¬ (i < 0 ∨ n ≤ i.toNatClampNeg)) (hj : i.toNatClampNeg = j) (hdg : decode cc pc = .ok (.iaload, 1))
    (kk : W p l e R s mm args below meth c H locs 0 0 Q (F0 mm (pc + 1) ls (.int (m.1 b j) :: rest))) : W p l e R s mm args below meth c H locs 0 0 Q (F0 mm pc ls (.int i :: .ref (ad b) :: rest)) := aI X hI hl hi hdg (hj ▸ kk)
theorem aZc {b n j : Nat} {i : Int32} (X : CX p s mm args meth c cc nL own D ca ad A) (hI : IW D ca ad A s m H locs) (hl : ly ca b = (2, n)) (hi : ¬ (i < 0 ∨ n ≤ i.toNatClampNeg)) (hj : i.toNatClampNeg = j) (hdg : decode cc pc = .ok (.baload, 1))
    (kk : W p l e R s mm args below meth c H locs 0 0 Q (F0 mm (pc + 1) ls (.int (m.1 b j) :: rest))) : W p l e R s mm args below meth c H locs 0 0 Q (F0 mm pc ls (.int i :: .ref (ad b) :: rest)) := aZ X hI hl hi hdg (hj ▸ kk)
theorem aLc {b n j : Nat} {i : Int32} (X : CX p s mm args meth c cc nL own D ca ad A) (hI : IW D ca ad A s m H locs) (hl : ly ca b = (4, n)) (hi : ¬ (i < 0 ∨ n ≤ i.toNatClampNeg)) (hj : i.toNatClampNeg = j) (hdg : decode cc pc = .ok (.laload, 1))
    (kk : W p l e R s mm args below meth c H locs 0 0 Q (F0 mm (pc + 1) ls (.long (m.2.1 b j) :: rest))) : W p l e R s mm args below meth c H locs 0 0 Q (F0 mm pc ls (.int i :: .ref (ad b) :: rest)) := aL X hI hl hi hdg (hj ▸ kk)
theorem sIc {b n j : Nat} {i x : Int32} (X : CX p s mm args meth c cc nL own D ca ad A) (hI : IW D ca ad A s m H locs) (hl : ly ca b = (1, n)) (hi : ¬ (i < 0 ∨ n ≤ i.toNatClampNeg)) (hj : i.toNatClampNeg = j) (hdg : decode cc pc = .ok (.iastore, 1))
    (kk : ∀ H1 locs1, IW D ca ad A s (mI m b j x) H1 locs1 → W p l e R s mm args below meth c H1 locs1 0 0 Q (F0 mm (pc + 1) ls rest)) : W p l e R s mm args below meth c H locs 0 0 Q (F0 mm pc ls (.int x :: .int i :: .ref (ad b) :: rest)) := sI X hI hl hi hdg (hj ▸ kk)
theorem sZc {b n j : Nat} {i x : Int32} (X : CX p s mm args meth c cc nL own D ca ad A) (hI : IW D ca ad A s m H locs) (hl : ly ca b = (2, n)) (hi : ¬ (i < 0 ∨ n ≤ i.toNatClampNeg)) (hj : i.toNatClampNeg = j) (hdg : decode cc pc = .ok (.bastore, 1))
    (kk : ∀ H1 locs1, IW D ca ad A s (mI m b j (vp_nar .boolean x)) H1 locs1 → W p l e R s mm args below meth c H1 locs1 0 0 Q (F0 mm (pc + 1) ls rest)) : W p l e R s mm args below meth c H locs 0 0 Q (F0 mm pc ls (.int x :: .int i :: .ref (ad b) :: rest)) := sZ X hI hl hi hdg (hj ▸ kk)
theorem sLc {b n j : Nat} {i : Int32} {x : Int64} (X : CX p s mm args meth c cc nL own D ca ad A) (hI : IW D ca ad A s m H locs) (hl : ly ca b = (4, n)) (hi : ¬ (i < 0 ∨ n ≤ i.toNatClampNeg)) (hj : i.toNatClampNeg = j) (hdg : decode cc pc = .ok (.lastore, 1))
    (kk : ∀ H1 locs1, IW D ca ad A s (mJ m b j x) H1 locs1 → W p l e R s mm args below meth c H1 locs1 0 0 Q (F0 mm (pc + 1) ls rest)) : W p l e R s mm args below meth c H locs 0 0 Q (F0 mm pc ls (.long x :: .int i :: .ref (ad b) :: rest)) := sL X hI hl hi hdg (hj ▸ kk)
end PRIM

theorem la_0 {ca : Nat → Nat} (hn : HNc ca) : ly ca 0 = (0, 11) := ly_of (hn.in (by decide)) rfl
theorem la_1 {ca : Nat → Nat} (hn : HNc ca) : ly ca 1 = (3, 700) := ly_of (hn.in (by decide)) rfl
theorem la_2 {ca : Nat → Nat} (hn : HNc ca) : ly ca 2 = (0, 8) := ly_of (hn.in (by decide)) rfl
theorem la_3 {ca : Nat → Nat} (hn : HNc ca) : ly ca 3 = (1, 72) := ly_of (hn.in (by decide)) rfl
theorem la_4 {ca : Nat → Nat} (hn : HNc ca) : ly ca 4 = (2, 9) := ly_of (hn.in (by decide)) rfl
theorem la_5 {ca : Nat → Nat} (hn : HNc ca) : ly ca 5 = (0, 10) := ly_of (hn.in (by decide)) rfl
theorem la_6 {ca : Nat → Nat} (hn : HNc ca) : ly ca 6 = (1, 21) := ly_of (hn.in (by decide)) rfl
theorem la_7 {ca : Nat → Nat} (hn : HNc ca) : ly ca 7 = (0, 6) := ly_of (hn.in (by decide)) rfl
theorem la_8 {ca : Nat → Nat} (hn : HNc ca) : ly ca 8 = (0, 9) := ly_of (hn.in (by decide)) rfl
theorem la_9 {ca : Nat → Nat} (hn : HNc ca) : ly ca 9 = (1, 18) := ly_of (hn.in (by decide)) rfl
theorem la_10 {ca : Nat → Nat} (hn : HNc ca) : ly ca 10 = (0, 9) := ly_of (hn.in (by decide)) rfl
theorem la_11 {ca : Nat → Nat} (hn : HNc ca) : ly ca 11 = (1, 18) := ly_of (hn.in (by decide)) rfl
theorem la_12 {ca : Nat → Nat} (hn : HNc ca) : ly ca 12 = (0, 9) := ly_of (hn.in (by decide)) rfl
theorem la_13 {ca : Nat → Nat} (hn : HNc ca) : ly ca 13 = (1, 36) := ly_of (hn.in (by decide)) rfl
theorem la_14 {ca : Nat → Nat} (hn : HNc ca) : ly ca 14 = (0, 9) := ly_of (hn.in (by decide)) rfl
theorem la_15 {ca : Nat → Nat} (hn : HNc ca) : ly ca 15 = (1, 30) := ly_of (hn.in (by decide)) rfl
theorem la_16 {ca : Nat → Nat} (hn : HNc ca) : ly ca 16 = (0, 9) := ly_of (hn.in (by decide)) rfl
theorem la_17 {ca : Nat → Nat} (hn : HNc ca) : ly ca 17 = (1, 24) := ly_of (hn.in (by decide)) rfl
theorem la_18 {ca : Nat → Nat} (hn : HNc ca) : ly ca 18 = (0, 3) := ly_of (hn.in (by decide)) rfl
theorem la_19 {ca : Nat → Nat} (hn : HNc ca) : ly ca 19 = (1, 64) := ly_of (hn.in (by decide)) rfl
theorem la_20 {ca : Nat → Nat} (hn : HNc ca) : ly ca 20 = (1, 64) := ly_of (hn.in (by decide)) rfl
theorem la_21 {ca : Nat → Nat} (hn : HNc ca) : ly ca 21 = (1, 3) := ly_of (hn.in (by decide)) rfl
theorem la_22 {ca : Nat → Nat} (hn : HNc ca) : ly ca 22 = (1, 3) := ly_of (hn.in (by decide)) rfl
theorem la_23 {ca : Nat → Nat} (hn : HNc ca) : ly ca 23 = (4, 7) := ly_of (hn.in (by decide)) rfl
theorem la_24 {ca : Nat → Nat} (hn : HNc ca) : ly ca 24 = (4, 64) := ly_of (hn.in (by decide)) rfl
theorem la_25 {ca : Nat → Nat} (hn : HNc ca) : ly ca 25 = (0, 6) := ly_of (hn.in (by decide)) rfl
theorem la_26 {ca : Nat → Nat} (hn : HNc ca) : ly ca 26 = (0, 9) := ly_of (hn.in (by decide)) rfl
theorem la_27 {ca : Nat → Nat} (hn : HNc ca) : ly ca 27 = (1, 18) := ly_of (hn.in (by decide)) rfl
theorem la_28 {ca : Nat → Nat} (hn : HNc ca) : ly ca 28 = (0, 9) := ly_of (hn.in (by decide)) rfl
theorem la_29 {ca : Nat → Nat} (hn : HNc ca) : ly ca 29 = (1, 18) := ly_of (hn.in (by decide)) rfl
theorem la_30 {ca : Nat → Nat} (hn : HNc ca) : ly ca 30 = (0, 9) := ly_of (hn.in (by decide)) rfl
theorem la_31 {ca : Nat → Nat} (hn : HNc ca) : ly ca 31 = (1, 36) := ly_of (hn.in (by decide)) rfl
theorem la_32 {ca : Nat → Nat} (hn : HNc ca) : ly ca 32 = (0, 9) := ly_of (hn.in (by decide)) rfl
theorem la_33 {ca : Nat → Nat} (hn : HNc ca) : ly ca 33 = (1, 30) := ly_of (hn.in (by decide)) rfl
theorem la_34 {ca : Nat → Nat} (hn : HNc ca) : ly ca 34 = (0, 9) := ly_of (hn.in (by decide)) rfl
theorem la_35 {ca : Nat → Nat} (hn : HNc ca) : ly ca 35 = (1, 24) := ly_of (hn.in (by decide)) rfl
theorem la_36 {ca : Nat → Nat} (hn : HNc ca) : ly ca 36 = (0, 3) := ly_of (hn.in (by decide)) rfl
theorem la_37 {ca : Nat → Nat} (hn : HNc ca) : ly ca 37 = (1, 64) := ly_of (hn.in (by decide)) rfl
theorem la_38 {ca : Nat → Nat} (hn : HNc ca) : ly ca 38 = (1, 64) := ly_of (hn.in (by decide)) rfl
theorem la_39 {ca : Nat → Nat} (hn : HNc ca) : ly ca 39 = (1, 3) := ly_of (hn.in (by decide)) rfl
theorem la_40 {ca : Nat → Nat} (hn : HNc ca) : ly ca 40 = (1, 3) := ly_of (hn.in (by decide)) rfl
theorem la_41 {ca : Nat → Nat} (hn : HNc ca) : ly ca 41 = (4, 7) := ly_of (hn.in (by decide)) rfl
theorem la_42 {ca : Nat → Nat} (hn : HNc ca) : ly ca 42 = (4, 64) := ly_of (hn.in (by decide)) rfl
theorem la_43 {ca : Nat → Nat} (hn : HNc ca) : ly ca 43 = (0, 0) := ly_of (hn.in (by decide)) rfl
theorem la_44 {ca : Nat → Nat} (hn : HNc ca) : ly ca 44 = (1, 6) := ly_of (hn.in (by decide)) rfl
theorem la_45 {ca : Nat → Nat} (hn : HNc ca) : ly ca 45 = (1, 6) := ly_of (hn.in (by decide)) rfl
theorem la_46 {ca : Nat → Nat} (hn : HNc ca) : ly ca 46 = (1, 6) := ly_of (hn.in (by decide)) rfl
theorem la_47 {ca : Nat → Nat} (hn : HNc ca) : ly ca 47 = (1, 6) := ly_of (hn.in (by decide)) rfl
theorem la_48 {ca : Nat → Nat} (hn : HNc ca) : ly ca 48 = (1, 6) := ly_of (hn.in (by decide)) rfl
theorem la_49 {ca : Nat → Nat} (hn : HNc ca) : ly ca 49 = (1, 6) := ly_of (hn.in (by decide)) rfl
theorem la_50 {ca : Nat → Nat} (hn : HNc ca) : ly ca 50 = (1, 6) := ly_of (hn.in (by decide)) rfl
theorem la_51 {ca : Nat → Nat} (hn : HNc ca) : ly ca 51 = (1, 6) := ly_of (hn.in (by decide)) rfl
theorem la_52 {ca : Nat → Nat} (hn : HNc ca) : ly ca 52 = (1, 6) := ly_of (hn.in (by decide)) rfl
theorem la_53 {ca : Nat → Nat} (hn : HNc ca) : ly ca 53 = (0, 0) := ly_of (hn.in (by decide)) rfl
theorem la_54 {ca : Nat → Nat} (hn : HNc ca) : ly ca 54 = (1, 6) := ly_of (hn.in (by decide)) rfl
theorem la_55 {ca : Nat → Nat} (hn : HNc ca) : ly ca 55 = (1, 6) := ly_of (hn.in (by decide)) rfl
theorem la_56 {ca : Nat → Nat} (hn : HNc ca) : ly ca 56 = (1, 6) := ly_of (hn.in (by decide)) rfl
theorem la_57 {ca : Nat → Nat} (hn : HNc ca) : ly ca 57 = (1, 6) := ly_of (hn.in (by decide)) rfl
theorem la_58 {ca : Nat → Nat} (hn : HNc ca) : ly ca 58 = (1, 6) := ly_of (hn.in (by decide)) rfl
theorem la_59 {ca : Nat → Nat} (hn : HNc ca) : ly ca 59 = (1, 6) := ly_of (hn.in (by decide)) rfl
theorem la_60 {ca : Nat → Nat} (hn : HNc ca) : ly ca 60 = (1, 6) := ly_of (hn.in (by decide)) rfl
theorem la_61 {ca : Nat → Nat} (hn : HNc ca) : ly ca 61 = (1, 6) := ly_of (hn.in (by decide)) rfl
theorem la_62 {ca : Nat → Nat} (hn : HNc ca) : ly ca 62 = (1, 6) := ly_of (hn.in (by decide)) rfl
theorem la_63 {ca : Nat → Nat} (hn : HNc ca) : ly ca 63 = (0, 0) := ly_of (hn.in (by decide)) rfl
theorem la_64 {ca : Nat → Nat} (hn : HNc ca) : ly ca 64 = (1, 6) := ly_of (hn.in (by decide)) rfl
theorem la_65 {ca : Nat → Nat} (hn : HNc ca) : ly ca 65 = (1, 6) := ly_of (hn.in (by decide)) rfl
theorem la_66 {ca : Nat → Nat} (hn : HNc ca) : ly ca 66 = (1, 6) := ly_of (hn.in (by decide)) rfl
theorem la_67 {ca : Nat → Nat} (hn : HNc ca) : ly ca 67 = (1, 6) := ly_of (hn.in (by decide)) rfl
theorem la_68 {ca : Nat → Nat} (hn : HNc ca) : ly ca 68 = (1, 6) := ly_of (hn.in (by decide)) rfl
theorem la_69 {ca : Nat → Nat} (hn : HNc ca) : ly ca 69 = (1, 6) := ly_of (hn.in (by decide)) rfl
theorem la_70 {ca : Nat → Nat} (hn : HNc ca) : ly ca 70 = (1, 6) := ly_of (hn.in (by decide)) rfl
theorem la_71 {ca : Nat → Nat} (hn : HNc ca) : ly ca 71 = (1, 6) := ly_of (hn.in (by decide)) rfl
theorem la_72 {ca : Nat → Nat} (hn : HNc ca) : ly ca 72 = (1, 6) := ly_of (hn.in (by decide)) rfl
theorem la_73 {ca : Nat → Nat} (hn : HNc ca) : ly ca 73 = (0, 5) := ly_of (hn.in (by decide)) rfl
theorem la_74 {ca : Nat → Nat} (hn : HNc ca) : ly ca 74 = (0, 7) := ly_of (hn.in (by decide)) rfl
theorem la_75 {ca : Nat → Nat} (hn : HNc ca) : ly ca 75 = (1, 480) := ly_of (hn.in (by decide)) rfl
theorem la_76 {ca : Nat → Nat} (hn : HNc ca) : ly ca 76 = (0, 1) := ly_of (hn.in (by decide)) rfl
theorem la_77 {ca : Nat → Nat} (hn : HNc ca) : ly ca 77 = (1, 24) := ly_of (hn.in (by decide)) rfl
theorem la_78 {ca : Nat → Nat} (hn : HNc ca) : ly ca 78 = (1, 24) := ly_of (hn.in (by decide)) rfl
theorem la_79 {ca : Nat → Nat} (hn : HNc ca) : ly ca 79 = (1, 24) := ly_of (hn.in (by decide)) rfl
theorem la_80 {ca : Nat → Nat} (hn : HNc ca) : ly ca 80 = (2, 24) := ly_of (hn.in (by decide)) rfl
theorem la_81 {ca : Nat → Nat} (hn : HNc ca) : ly ca 81 = (1, 24) := ly_of (hn.in (by decide)) rfl
theorem la_82 {ca : Nat → Nat} (hn : HNc ca) : ly ca 82 = (2, 24) := ly_of (hn.in (by decide)) rfl
theorem la_83 {ca : Nat → Nat} (hn : HNc ca) : ly ca 83 = (0, 2) := ly_of (hn.in (by decide)) rfl
theorem la_84 {ca : Nat → Nat} (hn : HNc ca) : ly ca 84 = (0, 0) := ly_of (hn.in (by decide)) rfl
theorem la_85 {ca : Nat → Nat} (hn : HNc ca) : ly ca 85 = (1, 6) := ly_of (hn.in (by decide)) rfl
theorem la_86 {ca : Nat → Nat} (hn : HNc ca) : ly ca 86 = (1, 6) := ly_of (hn.in (by decide)) rfl
theorem la_87 {ca : Nat → Nat} (hn : HNc ca) : ly ca 87 = (1, 6) := ly_of (hn.in (by decide)) rfl
theorem la_88 {ca : Nat → Nat} (hn : HNc ca) : ly ca 88 = (1, 6) := ly_of (hn.in (by decide)) rfl
theorem la_89 {ca : Nat → Nat} (hn : HNc ca) : ly ca 89 = (1, 6) := ly_of (hn.in (by decide)) rfl
theorem la_90 {ca : Nat → Nat} (hn : HNc ca) : ly ca 90 = (1, 6) := ly_of (hn.in (by decide)) rfl
theorem la_91 {ca : Nat → Nat} (hn : HNc ca) : ly ca 91 = (1, 6) := ly_of (hn.in (by decide)) rfl
theorem la_92 {ca : Nat → Nat} (hn : HNc ca) : ly ca 92 = (1, 6) := ly_of (hn.in (by decide)) rfl
theorem la_93 {ca : Nat → Nat} (hn : HNc ca) : ly ca 93 = (1, 6) := ly_of (hn.in (by decide)) rfl
theorem la_94 {ca : Nat → Nat} (hn : HNc ca) : ly ca 94 = (4, 10) := ly_of (hn.in (by decide)) rfl
theorem la_95 {ca : Nat → Nat} (hn : HNc ca) : ly ca 95 = (0, 4) := ly_of (hn.in (by decide)) rfl
theorem la_96 {ca : Nat → Nat} (hn : HNc ca) : ly ca 96 = (1, 448) := ly_of (hn.in (by decide)) rfl
theorem la_97 {ca : Nat → Nat} (hn : HNc ca) : ly ca 97 = (2, 36) := ly_of (hn.in (by decide)) rfl
theorem la_98 {ca : Nat → Nat} (hn : HNc ca) : ly ca 98 = (1, 6) := ly_of (hn.in (by decide)) rfl
theorem la_99 {ca : Nat → Nat} (hn : HNr ca) : ly ca 99 = (0, 12) := ly_of (hn.in (by decide) (by decide)) rfl
theorem la_100 {ca : Nat → Nat} (hn : HNr ca) : ly ca 100 = (1, 700) := ly_of (hn.in (by decide) (by decide)) rfl
theorem la_101 {ca : Nat → Nat} (hn : HNr ca) : ly ca 101 = (1, 16) := ly_of (hn.in (by decide) (by decide)) rfl
theorem la_102 {ca : Nat → Nat} (hn : HNr ca) : ly ca 102 = (1, 12) := ly_of (hn.in (by decide) (by decide)) rfl
theorem la_103 {ca : Nat → Nat} (hn : HNr ca) : ly ca 103 = (1, 12) := ly_of (hn.in (by decide) (by decide)) rfl
theorem la_104 {ca : Nat → Nat} (hn : HNr ca) : ly ca 104 = (1, 12) := ly_of (hn.in (by decide) (by decide)) rfl
theorem la_105 {ca : Nat → Nat} (hn : HNr ca) : ly ca 105 = (1, 12) := ly_of (hn.in (by decide) (by decide)) rfl
theorem la_106 {ca : Nat → Nat} (hn : HNr ca) : ly ca 106 = (1, 12) := ly_of (hn.in (by decide) (by decide)) rfl
theorem la_107 {ca : Nat → Nat} (hn : HNr ca) : ly ca 107 = (1, 12) := ly_of (hn.in (by decide) (by decide)) rfl
theorem la_108 {ca : Nat → Nat} (hn : HNr ca) : ly ca 108 = (1, 24) := ly_of (hn.in (by decide) (by decide)) rfl
theorem la_109 {ca : Nat → Nat} (hn : HNr ca) : ly ca 109 = (1, 24) := ly_of (hn.in (by decide) (by decide)) rfl
theorem la_110 {ca : Nat → Nat} (hn : HNr ca) : ly ca 110 = (1, 24) := ly_of (hn.in (by decide) (by decide)) rfl
theorem la_111 {ca : Nat → Nat} (hn : HNr ca) : ly ca 111 = (1, 20) := ly_of (hn.in (by decide) (by decide)) rfl
theorem la_112 {ca : Nat → Nat} (hn : HNr ca) : ly ca 112 = (1, 20) := ly_of (hn.in (by decide) (by decide)) rfl
theorem la_113 {ca : Nat → Nat} (hn : HNr ca) : ly ca 113 = (1, 20) := ly_of (hn.in (by decide) (by decide)) rfl
theorem la_114 {ca : Nat → Nat} (hn : HNr ca) : ly ca 114 = (1, 16) := ly_of (hn.in (by decide) (by decide)) rfl
theorem la_115 {ca : Nat → Nat} (hn : HNr ca) : ly ca 115 = (1, 16) := ly_of (hn.in (by decide) (by decide)) rfl
theorem la_116 {ca : Nat → Nat} (hn : HNr ca) : ly ca 116 = (1, 16) := ly_of (hn.in (by decide) (by decide)) rfl
theorem la_117 {ca : Nat → Nat} (hn : HNr ca) : ly ca 117 = (1, 6) := ly_of (hn.in (by decide) (by decide)) rfl
theorem la_118 {ca : Nat → Nat} (hn : HNr ca) : ly ca 118 = (1, 6) := ly_of (hn.in (by decide) (by decide)) rfl
theorem la_119 {ca : Nat → Nat} (hn : HNr ca) : ly ca 119 = (1, 128) := ly_of (hn.in (by decide) (by decide)) rfl
theorem la_120 {ca : Nat → Nat} (hn : HNr ca) : ly ca 120 = (1, 128) := ly_of (hn.in (by decide) (by decide)) rfl
theorem la_121 {ca : Nat → Nat} (hn : HNr ca) : ly ca 121 = (4, 7) := ly_of (hn.in (by decide) (by decide)) rfl
theorem la_122 {ca : Nat → Nat} (hn : HNr ca) : ly ca 122 = (4, 64) := ly_of (hn.in (by decide) (by decide)) rfl
theorem la_123 {ca : Nat → Nat} (hn : HNr ca) : ly ca 123 = (1, 23) := ly_of (hn.in (by decide) (by decide)) rfl
theorem la_124 {ca : Nat → Nat} (hn : HNr ca) : ly ca 124 = (1, 23) := ly_of (hn.in (by decide) (by decide)) rfl
theorem la_125 {ca : Nat → Nat} (hn : HNr ca) : ly ca 125 = (1, 23) := ly_of (hn.in (by decide) (by decide)) rfl
theorem la_126 {ca : Nat → Nat} (hn : HNr ca) : ly ca 126 = (1, 138) := ly_of (hn.in (by decide) (by decide)) rfl
theorem la_127 {ca : Nat → Nat} (hn : HNr ca) : ly ca 127 = (1, 138) := ly_of (hn.in (by decide) (by decide)) rfl
theorem la_128 {ca : Nat → Nat} (hn : HNr ca) : ly ca 128 = (1, 138) := ly_of (hn.in (by decide) (by decide)) rfl
theorem la_129 {ca : Nat → Nat} (hn : HNr ca) : ly ca 129 = (1, 138) := ly_of (hn.in (by decide) (by decide)) rfl
theorem la_130 {ca : Nat → Nat} (hn : HNr ca) : ly ca 130 = (1, 138) := ly_of (hn.in (by decide) (by decide)) rfl
theorem la_131 {ca : Nat → Nat} (hn : HNr ca) : ly ca 131 = (1, 138) := ly_of (hn.in (by decide) (by decide)) rfl
theorem la_132 {ca : Nat → Nat} (hn : HNr ca) : ly ca 132 = (1, 138) := ly_of (hn.in (by decide) (by decide)) rfl
theorem la_133 {ca : Nat → Nat} (hn : HNr ca) : ly ca 133 = (1, 138) := ly_of (hn.in (by decide) (by decide)) rfl
theorem la_134 {ca : Nat → Nat} (hn : HNr ca) : ly ca 134 = (1, 6) := ly_of (hn.in (by decide) (by decide)) rfl
theorem la_135 {ca : Nat → Nat} (hn : HNr ca) : ly ca 135 = (1, 6) := ly_of (hn.in (by decide) (by decide)) rfl
theorem la_136 {ca : Nat → Nat} (hn : HNr ca) : ly ca 136 = (1, 24) := ly_of (hn.in (by decide) (by decide)) rfl
theorem la_137 {ca : Nat → Nat} (hn : HNr ca) : ly ca 137 = (1, 24) := ly_of (hn.in (by decide) (by decide)) rfl
theorem la_138 {ca : Nat → Nat} (hn : HNr ca) : ly ca 138 = (1, 24) := ly_of (hn.in (by decide) (by decide)) rfl
theorem la_139 {ca : Nat → Nat} (hn : HNr ca) : ly ca 139 = (2, 24) := ly_of (hn.in (by decide) (by decide)) rfl
theorem la_140 {ca : Nat → Nat} (hn : HNr ca) : ly ca 140 = (1, 24) := ly_of (hn.in (by decide) (by decide)) rfl
theorem la_141 {ca : Nat → Nat} (hn : HNr ca) : ly ca 141 = (2, 24) := ly_of (hn.in (by decide) (by decide)) rfl
theorem la_142 {ca : Nat → Nat} (hn : HNr ca) : ly ca 142 = (1, 61) := ly_of (hn.in (by decide) (by decide)) rfl
theorem mpX0_75 : Cond.methodLink RX0 75 arraycopyName ∈ BIG := (tb4 (List.mem_of_getElem? (i := 190) rfl) rfl)
theorem mpX1_46 : Cond.methodLink RX1 46 Lib.Math.max.name ∈ BIG := (tb5 (List.mem_of_getElem? (i := 101) rfl) rfl)
theorem mpX10_79 : Cond.methodLink RX10 79 Lib.Math.min.name ∈ BIG := (tb3 (List.mem_of_getElem? (i := 117) rfl) rfl)
theorem mpX11_273 : Cond.methodLink RX11 273 Lib.Math.min.name ∈ BIG := (tb5 (List.mem_of_getElem? (i := 35) rfl) rfl)
theorem mpX12_327 : Cond.methodLink RX12 327 Lib.MathLoose.abs_long.x ∈ BIG := (tb7 (List.mem_of_getElem? (i := 188) rfl) rfl)
theorem mpX12_349 : Cond.methodLink RX12 349 Lib.MathLoose.min_long.x ∈ BIG := (tb8 (List.mem_of_getElem? (i := 19) rfl) rfl)
theorem mpX12_353 : Cond.methodLink RX12 353 Lib.MathLoose.max_long.x ∈ BIG := (tb8 (List.mem_of_getElem? (i := 22) rfl) rfl)
theorem mpX12_364 : Cond.methodLink RX12 364 Lib.Math.min.name ∈ BIG := (tb8 (List.mem_of_getElem? (i := 9) rfl) rfl)
theorem mpX12_370 : Cond.methodLink RX12 370 Lib.Math.max.name ∈ BIG := (tb8 (List.mem_of_getElem? (i := 14) rfl) rfl)
theorem mpX2_70 : Cond.methodLink RX2 70 Lib.Math.max.name ∈ BIG := (tb5 (List.mem_of_getElem? (i := 127) rfl) rfl)
theorem mpX4_34 : Cond.methodLink RX4 34 Lib.Math.min.name ∈ BIG := (tb5 (List.mem_of_getElem? (i := 8) rfl) rfl)
theorem mpX4_59 : Cond.methodLink RX4 59 Lib.Math.max.name ∈ BIG := (tb5 (List.mem_of_getElem? (i := 18) rfl) rfl)
theorem mpX5_96 : Cond.methodLink RX5 96 Lib.Math.min.name ∈ BIG := (tb4 (List.mem_of_getElem? (i := 142) rfl) rfl)
theorem mpX5_113 : Cond.methodLink RX5 113 Lib.Math.max.name ∈ BIG := (tb4 (List.mem_of_getElem? (i := 148) rfl) rfl)
theorem mpX7_19 : Cond.methodLink RX7 19 arraycopyName ∈ BIG := (tb4 (List.mem_of_getElem? (i := 82) rfl) rfl)
theorem rf0_0 {m : Mem} {b : Nat} : rfi m 0 b 0 = b + 1 := rfl
theorem lf0_0 {ca : Nat → Nat} {b : Nat} (hn : HNc ca) (h : ly ca b = (0, 0)) : ly ca (b + 1) = (1, 6) := by
  have hall : ∀ b, b < 144 → lay b = (0, 0) → b + 1 < 99 ∧ lay (b + 1) = (1, 6) := by decide +kernel
  have h2 := ly_lay h (by decide)
  obtain ⟨q1, q2⟩ := hall b (lay_lt h2 (by decide)) h2
  exact ly_of (hn.in q1) q2
theorem rf0_1 {m : Mem} {b : Nat} : rfi m 0 b 1 = b + 2 := rfl
theorem lf0_1 {ca : Nat → Nat} {b : Nat} (hn : HNc ca) (h : ly ca b = (0, 0)) : ly ca (b + 2) = (1, 6) := by
  have hall : ∀ b, b < 144 → lay b = (0, 0) → b + 2 < 99 ∧ lay (b + 2) = (1, 6) := by decide +kernel
  have h2 := ly_lay h (by decide)
  obtain ⟨q1, q2⟩ := hall b (lay_lt h2 (by decide)) h2
  exact ly_of (hn.in q1) q2
theorem rf0_2 {m : Mem} {b : Nat} : rfi m 0 b 2 = b + 3 := rfl
theorem lf0_2 {ca : Nat → Nat} {b : Nat} (hn : HNc ca) (h : ly ca b = (0, 0)) : ly ca (b + 3) = (1, 6) := by
  have hall : ∀ b, b < 144 → lay b = (0, 0) → b + 3 < 99 ∧ lay (b + 3) = (1, 6) := by decide +kernel
  have h2 := ly_lay h (by decide)
  obtain ⟨q1, q2⟩ := hall b (lay_lt h2 (by decide)) h2
  exact ly_of (hn.in q1) q2
theorem rf0_3 {m : Mem} {b : Nat} : rfi m 0 b 3 = b + 4 := rfl
theorem lf0_3 {ca : Nat → Nat} {b : Nat} (hn : HNc ca) (h : ly ca b = (0, 0)) : ly ca (b + 4) = (1, 6) := by
  have hall : ∀ b, b < 144 → lay b = (0, 0) → b + 4 < 99 ∧ lay (b + 4) = (1, 6) := by decide +kernel
  have h2 := ly_lay h (by decide)
  obtain ⟨q1, q2⟩ := hall b (lay_lt h2 (by decide)) h2
  exact ly_of (hn.in q1) q2
theorem rf0_4 {m : Mem} {b : Nat} : rfi m 0 b 4 = b + 5 := rfl
theorem lf0_4 {ca : Nat → Nat} {b : Nat} (hn : HNc ca) (h : ly ca b = (0, 0)) : ly ca (b + 5) = (1, 6) := by
  have hall : ∀ b, b < 144 → lay b = (0, 0) → b + 5 < 99 ∧ lay (b + 5) = (1, 6) := by decide +kernel
  have h2 := ly_lay h (by decide)
  obtain ⟨q1, q2⟩ := hall b (lay_lt h2 (by decide)) h2
  exact ly_of (hn.in q1) q2
theorem rf0_5 {m : Mem} {b : Nat} : rfi m 0 b 5 = b + 6 := rfl
theorem lf0_5 {ca : Nat → Nat} {b : Nat} (hn : HNc ca) (h : ly ca b = (0, 0)) : ly ca (b + 6) = (1, 6) := by
  have hall : ∀ b, b < 144 → lay b = (0, 0) → b + 6 < 99 ∧ lay (b + 6) = (1, 6) := by decide +kernel
  have h2 := ly_lay h (by decide)
  obtain ⟨q1, q2⟩ := hall b (lay_lt h2 (by decide)) h2
  exact ly_of (hn.in q1) q2
theorem rf0_6 {m : Mem} {b : Nat} : rfi m 0 b 6 = b + 7 := rfl
theorem lf0_6 {ca : Nat → Nat} {b : Nat} (hn : HNc ca) (h : ly ca b = (0, 0)) : ly ca (b + 7) = (1, 6) := by
  have hall : ∀ b, b < 144 → lay b = (0, 0) → b + 7 < 99 ∧ lay (b + 7) = (1, 6) := by decide +kernel
  have h2 := ly_lay h (by decide)
  obtain ⟨q1, q2⟩ := hall b (lay_lt h2 (by decide)) h2
  exact ly_of (hn.in q1) q2
theorem rf0_7 {m : Mem} {b : Nat} : rfi m 0 b 7 = b + 8 := rfl
theorem lf0_7 {ca : Nat → Nat} {b : Nat} (hn : HNc ca) (h : ly ca b = (0, 0)) : ly ca (b + 8) = (1, 6) := by
  have hall : ∀ b, b < 144 → lay b = (0, 0) → b + 8 < 99 ∧ lay (b + 8) = (1, 6) := by decide +kernel
  have h2 := ly_lay h (by decide)
  obtain ⟨q1, q2⟩ := hall b (lay_lt h2 (by decide)) h2
  exact ly_of (hn.in q1) q2
theorem rf0_8 {m : Mem} {b : Nat} : rfi m 0 b 8 = b + 9 := rfl
theorem lf0_8 {ca : Nat → Nat} {b : Nat} (hn : HNc ca) (h : ly ca b = (0, 0)) : ly ca (b + 9) = (1, 6) := by
  have hall : ∀ b, b < 144 → lay b = (0, 0) → b + 9 < 99 ∧ lay (b + 9) = (1, 6) := by decide +kernel
  have h2 := ly_lay h (by decide)
  obtain ⟨q1, q2⟩ := hall b (lay_lt h2 (by decide)) h2
  exact ly_of (hn.in q1) q2
theorem rf1_0 {m : Mem} : rfi m 1 76 0 = 77 := rfl
theorem rf1_1 {m : Mem} : rfi m 1 76 1 = 78 := rfl
theorem rf1_2 {m : Mem} : rfi m 1 76 2 = 79 := rfl
theorem rf1_3 {m : Mem} : rfi m 1 76 3 = 80 := rfl
theorem rf1_4 {m : Mem} : rfi m 1 76 4 = 81 := rfl
theorem rf1_5 {m : Mem} : rfi m 1 76 5 = 82 := rfl
theorem rf2_0 {m : Mem} : rfi m 2 83 0 = 84 := rfl
theorem rf2_1 {m : Mem} : rfi m 2 83 1 = 94 := rfl
theorem rf3_0 {m : Mem} {b : Nat} : rfi m 3 b 0 = b + 1 := rfl
theorem lf3_0 {ca : Nat → Nat} {b : Nat} (hn : HNc ca) (h : ly ca b = (0, 3)) : ly ca (b + 1) = (1, 64) := by
  have hall : ∀ b, b < 144 → lay b = (0, 3) → b + 1 < 99 ∧ lay (b + 1) = (1, 64) := by decide +kernel
  have h2 := ly_lay h (by decide)
  obtain ⟨q1, q2⟩ := hall b (lay_lt h2 (by decide)) h2
  exact ly_of (hn.in q1) q2
theorem rf3_1 {m : Mem} {b : Nat} : rfi m 3 b 1 = b + 2 := rfl
theorem lf3_1 {ca : Nat → Nat} {b : Nat} (hn : HNc ca) (h : ly ca b = (0, 3)) : ly ca (b + 2) = (1, 64) := by
  have hall : ∀ b, b < 144 → lay b = (0, 3) → b + 2 < 99 ∧ lay (b + 2) = (1, 64) := by decide +kernel
  have h2 := ly_lay h (by decide)
  obtain ⟨q1, q2⟩ := hall b (lay_lt h2 (by decide)) h2
  exact ly_of (hn.in q1) q2
theorem rf3_2 {m : Mem} {b : Nat} : rfi m 3 b 2 = b + 3 := rfl
theorem lf3_2 {ca : Nat → Nat} {b : Nat} (hn : HNc ca) (h : ly ca b = (0, 3)) : ly ca (b + 3) = (1, 3) := by
  have hall : ∀ b, b < 144 → lay b = (0, 3) → b + 3 < 99 ∧ lay (b + 3) = (1, 3) := by decide +kernel
  have h2 := ly_lay h (by decide)
  obtain ⟨q1, q2⟩ := hall b (lay_lt h2 (by decide)) h2
  exact ly_of (hn.in q1) q2
theorem rf3_3 {m : Mem} {b : Nat} : rfi m 3 b 3 = b + 4 := rfl
theorem lf3_3 {ca : Nat → Nat} {b : Nat} (hn : HNc ca) (h : ly ca b = (0, 3)) : ly ca (b + 4) = (1, 3) := by
  have hall : ∀ b, b < 144 → lay b = (0, 3) → b + 4 < 99 ∧ lay (b + 4) = (1, 3) := by decide +kernel
  have h2 := ly_lay h (by decide)
  obtain ⟨q1, q2⟩ := hall b (lay_lt h2 (by decide)) h2
  exact ly_of (hn.in q1) q2
theorem rf3_4 {m : Mem} {b : Nat} : rfi m 3 b 4 = b + 5 := rfl
theorem lf3_4 {ca : Nat → Nat} {b : Nat} (hn : HNc ca) (h : ly ca b = (0, 3)) : ly ca (b + 5) = (4, 7) := by
  have hall : ∀ b, b < 144 → lay b = (0, 3) → b + 5 < 99 ∧ lay (b + 5) = (4, 7) := by decide +kernel
  have h2 := ly_lay h (by decide)
  obtain ⟨q1, q2⟩ := hall b (lay_lt h2 (by decide)) h2
  exact ly_of (hn.in q1) q2
theorem rf3_5 {m : Mem} {b : Nat} : rfi m 3 b 5 = b + 6 := rfl
theorem lf3_5 {ca : Nat → Nat} {b : Nat} (hn : HNc ca) (h : ly ca b = (0, 3)) : ly ca (b + 6) = (4, 64) := by
  have hall : ∀ b, b < 144 → lay b = (0, 3) → b + 6 < 99 ∧ lay (b + 6) = (4, 64) := by decide +kernel
  have h2 := ly_lay h (by decide)
  obtain ⟨q1, q2⟩ := hall b (lay_lt h2 (by decide)) h2
  exact ly_of (hn.in q1) q2
theorem rf4_0 {m : Mem} : rfi m 4 95 0 = 96 := rfl
theorem rf4_1 {m : Mem} : rfi m 4 95 1 = 97 := rfl
theorem rf4_2 {m : Mem} : rfi m 4 95 2 = 98 := rfl
theorem rf6_0 {m : Mem} {b : Nat} : rfi m 6 b 0 = b + 1 := rfl
theorem lf6_0 {ca : Nat → Nat} {b : Nat} (hn : HNc ca) (h : ly ca b = (0, 6)) : ly ca (b + 1) = (0, 9) := by
  have hall : ∀ b, b < 144 → lay b = (0, 6) → b + 1 < 99 ∧ lay (b + 1) = (0, 9) := by decide +kernel
  have h2 := ly_lay h (by decide)
  obtain ⟨q1, q2⟩ := hall b (lay_lt h2 (by decide)) h2
  exact ly_of (hn.in q1) q2
theorem rf6_1 {m : Mem} {b : Nat} : rfi m 6 b 1 = b + 3 := rfl
theorem lf6_1 {ca : Nat → Nat} {b : Nat} (hn : HNc ca) (h : ly ca b = (0, 6)) : ly ca (b + 3) = (0, 9) := by
  have hall : ∀ b, b < 144 → lay b = (0, 6) → b + 3 < 99 ∧ lay (b + 3) = (0, 9) := by decide +kernel
  have h2 := ly_lay h (by decide)
  obtain ⟨q1, q2⟩ := hall b (lay_lt h2 (by decide)) h2
  exact ly_of (hn.in q1) q2
theorem rf6_2 {m : Mem} {b : Nat} : rfi m 6 b 2 = b + 5 := rfl
theorem lf6_2 {ca : Nat → Nat} {b : Nat} (hn : HNc ca) (h : ly ca b = (0, 6)) : ly ca (b + 5) = (0, 9) := by
  have hall : ∀ b, b < 144 → lay b = (0, 6) → b + 5 < 99 ∧ lay (b + 5) = (0, 9) := by decide +kernel
  have h2 := ly_lay h (by decide)
  obtain ⟨q1, q2⟩ := hall b (lay_lt h2 (by decide)) h2
  exact ly_of (hn.in q1) q2
theorem rf6_3 {m : Mem} {b : Nat} : rfi m 6 b 3 = b + 7 := rfl
theorem lf6_3 {ca : Nat → Nat} {b : Nat} (hn : HNc ca) (h : ly ca b = (0, 6)) : ly ca (b + 7) = (0, 9) := by
  have hall : ∀ b, b < 144 → lay b = (0, 6) → b + 7 < 99 ∧ lay (b + 7) = (0, 9) := by decide +kernel
  have h2 := ly_lay h (by decide)
  obtain ⟨q1, q2⟩ := hall b (lay_lt h2 (by decide)) h2
  exact ly_of (hn.in q1) q2
theorem rf6_4 {m : Mem} {b : Nat} : rfi m 6 b 4 = b + 9 := rfl
theorem lf6_4 {ca : Nat → Nat} {b : Nat} (hn : HNc ca) (h : ly ca b = (0, 6)) : ly ca (b + 9) = (0, 9) := by
  have hall : ∀ b, b < 144 → lay b = (0, 6) → b + 9 < 99 ∧ lay (b + 9) = (0, 9) := by decide +kernel
  have h2 := ly_lay h (by decide)
  obtain ⟨q1, q2⟩ := hall b (lay_lt h2 (by decide)) h2
  exact ly_of (hn.in q1) q2
theorem rf6_5 {m : Mem} {b : Nat} : rfi m 6 b 5 = b + 11 := rfl
theorem lf6_5 {ca : Nat → Nat} {b : Nat} (hn : HNc ca) (h : ly ca b = (0, 6)) : ly ca (b + 11) = (0, 3) := by
  have hall : ∀ b, b < 144 → lay b = (0, 6) → b + 11 < 99 ∧ lay (b + 11) = (0, 3) := by decide +kernel
  have h2 := ly_lay h (by decide)
  obtain ⟨q1, q2⟩ := hall b (lay_lt h2 (by decide)) h2
  exact ly_of (hn.in q1) q2
theorem rf7_0 {m : Mem} : rfi m 7 74 0 = 75 := rfl
theorem rf8_0 {m : Mem} : rfi m 8 2 0 = 5 := rfl
theorem rf8_1 {m : Mem} : rfi m 8 2 1 = 3 := rfl
theorem rf8_2 {m : Mem} : rfi m 8 2 2 = 4 := rfl
theorem rf9_1 {m : Mem} {b : Nat} : rfi m 9 b 1 = b + 1 := rfl
theorem lf9_1 {ca : Nat → Nat} {b : Nat} (hn : HNc ca) (h : ly ca b = (0, 9)) : ly ca (b + 1) = (1, (lay (b + 1)).2) := by
  have hall : ∀ b, b < 144 → lay b = (0, 9) → b + 1 < 99 ∧ lay (b + 1) = (1, (lay (b + 1)).2) := by decide +kernel
  have h2 := ly_lay h (by decide)
  obtain ⟨q1, q2⟩ := hall b (lay_lt h2 (by decide)) h2
  exact ly_of (hn.in q1) q2
theorem rf10_0 {m : Mem} : rfi m 10 5 0 = 1 := rfl
theorem rf10_1 {m : Mem} : rfi m 10 5 1 = 6 := rfl
theorem rf11_0 {m : Mem} : rfi m 11 0 0 = 1 := rfl
theorem rf11_2 {m : Mem} : rfi m 11 0 2 = 2 := rfl
theorem rf11_3 {m : Mem} : rfi m 11 0 3 = m.2.2 3 := rfl
theorem rf11_4 {m : Mem} : rfi m 11 0 4 = m.2.2 4 := rfl
theorem rf11_5 {m : Mem} : rfi m 11 0 5 = 43 := rfl
theorem rf11_6 {m : Mem} : rfi m 11 0 6 = 53 := rfl
theorem rf11_7 {m : Mem} : rfi m 11 0 7 = 63 := rfl
theorem rf11_9 {m : Mem} : rfi m 11 0 9 = 73 := rfl
theorem rf11_10 {m : Mem} : rfi m 11 0 10 = 74 := rfl
theorem rf11_11 {m : Mem} : rfi m 11 0 11 = 76 := rfl
theorem rf11_12 {m : Mem} : rfi m 11 0 12 = 83 := rfl
theorem rf11_13 {m : Mem} : rfi m 11 0 13 = 95 := rfl
theorem rf12_1 {m : Mem} : rfi m 12 99 1 = 100 := rfl
theorem rf12_3 {m : Mem} : rfi m 12 99 3 = 101 := rfl
theorem rf12_4 {m : Mem} : rfi m 12 99 4 = 102 := rfl
theorem rf12_5 {m : Mem} : rfi m 12 99 5 = 103 := rfl
theorem rf12_6 {m : Mem} : rfi m 12 99 6 = 104 := rfl
theorem rf12_7 {m : Mem} : rfi m 12 99 7 = 105 := rfl
theorem rf12_8 {m : Mem} : rfi m 12 99 8 = 106 := rfl
theorem rf12_9 {m : Mem} : rfi m 12 99 9 = 107 := rfl
theorem rf12_10 {m : Mem} : rfi m 12 99 10 = 108 := rfl
theorem rf12_11 {m : Mem} : rfi m 12 99 11 = 109 := rfl
theorem rf12_12 {m : Mem} : rfi m 12 99 12 = 110 := rfl
theorem rf12_13 {m : Mem} : rfi m 12 99 13 = 111 := rfl
theorem rf12_14 {m : Mem} : rfi m 12 99 14 = 112 := rfl
theorem rf12_15 {m : Mem} : rfi m 12 99 15 = 113 := rfl
theorem rf12_16 {m : Mem} : rfi m 12 99 16 = 114 := rfl
theorem rf12_17 {m : Mem} : rfi m 12 99 17 = 115 := rfl
theorem rf12_18 {m : Mem} : rfi m 12 99 18 = 116 := rfl
theorem rf12_19 {m : Mem} : rfi m 12 99 19 = 117 := rfl
theorem rf12_20 {m : Mem} : rfi m 12 99 20 = 118 := rfl
theorem rf12_21 {m : Mem} : rfi m 12 99 21 = 119 := rfl
theorem rf12_22 {m : Mem} : rfi m 12 99 22 = 120 := rfl
theorem rf12_36 {m : Mem} : rfi m 12 99 36 = 121 := rfl
theorem rf12_37 {m : Mem} : rfi m 12 99 37 = 122 := rfl
theorem rf12_39 {m : Mem} : rfi m 12 99 39 = 123 := rfl
theorem rf12_40 {m : Mem} : rfi m 12 99 40 = 124 := rfl
theorem rf12_41 {m : Mem} : rfi m 12 99 41 = 125 := rfl
theorem rf12_42 {m : Mem} : rfi m 12 99 42 = 126 := rfl
theorem rf12_43 {m : Mem} : rfi m 12 99 43 = 127 := rfl
theorem rf12_44 {m : Mem} : rfi m 12 99 44 = 128 := rfl
theorem rf12_45 {m : Mem} : rfi m 12 99 45 = 129 := rfl
theorem rf12_46 {m : Mem} : rfi m 12 99 46 = 130 := rfl
theorem rf12_47 {m : Mem} : rfi m 12 99 47 = 131 := rfl
theorem rf12_48 {m : Mem} : rfi m 12 99 48 = 132 := rfl
theorem rf12_49 {m : Mem} : rfi m 12 99 49 = 133 := rfl
theorem rf12_54 {m : Mem} : rfi m 12 99 54 = 134 := rfl
theorem rf12_55 {m : Mem} : rfi m 12 99 55 = 135 := rfl
theorem rf12_60 {m : Mem} : rfi m 12 99 60 = 136 := rfl
theorem rf12_61 {m : Mem} : rfi m 12 99 61 = 137 := rfl
theorem rf12_62 {m : Mem} : rfi m 12 99 62 = 138 := rfl
theorem rf12_63 {m : Mem} : rfi m 12 99 63 = 139 := rfl
theorem rf12_64 {m : Mem} : rfi m 12 99 64 = 140 := rfl
theorem rf12_65 {m : Mem} : rfi m 12 99 65 = 141 := rfl
theorem rf12_66 {m : Mem} : rfi m 12 99 66 = 142 := rfl
theorem lyO {ca : Nat → Nat} {q : Nat} (hn : HNc ca) (h : lay q = (0, 6)) : ly ca q = (0, 6) := by
  have hall : ∀ b, b < 144 → lay b = (0, 6) → b < 99 := by decide +kernel
  exact ly_of (hn.in (hall q (lay_lt h (by decide)) h)) h
