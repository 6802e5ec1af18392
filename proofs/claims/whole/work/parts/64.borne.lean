/-! what one bears: the runs of a guess -/
def cSt (N o k g : Nat) (C0 : Mem) : Nat → Mem
  | 0 => mI ((fX0_begin N 84 o C0).getD C0) 88 k (zN (10 * g))
  | i + 1 => (fX5_pass N o 84 (cSt N o k g C0 i)).getD C0
def rSt (N k g : Nat) (R0 : Mem) : Nat → Mem
  | 0 => mI ((fX12_starts N (1 : Int32) R0).getD R0) 128 (6 * 1 + k) (zN (10 * g))
  | i + 1 => (fX12_passes N (1 : Int32) (0 : Int32) (rSt N k g R0 i)).getD R0
def Bas (Z : Nat → Nat) (N o k many : Nat) (C0 R0 : Mem) : Prop := (1000 ≤ N) ∧ (OrdR Z o C0 R0) ∧ (MdR C0 R0 0) ∧ (FH Z many C0 R0) ∧ (k < Z 0)
theorem Bas.hN {Z : Nat → Nat} {N o k many : Nat} {C0 R0 : Mem} (h : Bas Z N o k many C0 R0) : 1000 ≤ N := h.1
theorem Bas.od {Z : Nat → Nat} {N o k many : Nat} {C0 R0 : Mem} (h : Bas Z N o k many C0 R0) : OrdR Z o C0 R0 := h.2.1
theorem Bas.md {Z : Nat → Nat} {N o k many : Nat} {C0 R0 : Mem} (h : Bas Z N o k many C0 R0) : MdR C0 R0 0 := h.2.2.1
theorem Bas.fh {Z : Nat → Nat} {N o k many : Nat} {C0 R0 : Mem} (h : Bas Z N o k many C0 R0) : FH Z many C0 R0 := h.2.2.2.1
theorem Bas.hk {Z : Nat → Nat} {N o k many : Nat} {C0 R0 : Mem} (h : Bas Z N o k many C0 R0) : k < Z 0 := h.2.2.2.2
/-- memories that tell the same orders, mode and facts -/
def CB (C0 C : Mem) : Prop := (∀ c j, c < 83 ∨ 93 < c → C.1 c j = C0.1 c j) ∧ C.2.2 = C0.2.2 ∧ (∀ c, c = 43 ∨ c = 63 → C.2.1 c 11 = C0.2.1 c 11)
def RB (R0 R : Mem) : Prop := ∀ c j, ¬ (c = 99 ∧ j = 38) → ¬ (123 ≤ c ∧ c ≤ 125 ∧ j = 1) → ¬ (126 ≤ c ∧ c ≤ 133 ∧ 6 ≤ j ∧ j < 12) → c ≠ 142 → R.1 c j = R0.1 c j
theorem CB.rf {C : Mem} : CB C C := ⟨fun _ _ _ => rfl, rfl, fun _ _ => rfl⟩
theorem RB.rf {R : Mem} : RB R R := fun _ _ _ _ _ _ => rfl
theorem CB.fc {o : Nat} {C0 C C' : Mem} (ho : o ≤ 25) (h : CB C0 C) (f : FC o 84 C C') : CB C0 C' := ⟨fun c j q => (f.1 c j (by omega)).trans (h.1 c j q), f.2.2.trans h.2.1, fun c q => (f.2.1 c 11 (by omega) (by omega) (by omega)).trans (h.2.2 c q)⟩
theorem RB.fr {R0 R R' : Mem} (h : RB R0 R) (f : FR 1 R R') : RB R0 R' := fun c j q1 q2 q3 q4 => (f c j q1 q2 (by omega)).trans (h c j q1 q2 q3 q4)
theorem Bas.od' {Z : Nat → Nat} {N o k many : Nat} {C0 R0 C R : Mem} (h : Bas Z N o k many C0 R0) (hC : CB C0 C) (hR : RB R0 R) : OrdR Z o C R := h.od.cong (fun c j q => hC.1 c j (by omega)) (fun c j a b => hR c j (by omega) (by omega) (by omega) (by omega))
theorem Bas.md' {Z : Nat → Nat} {N o k many : Nat} {C0 R0 C R : Mem} (h : Bas Z N o k many C0 R0) (hC : CB C0 C) (hR : RB R0 R) : MdR C R 0 := by
  have e0 := hC.1 73 0 (by omega)
  have e1 := hC.1 73 1 (by omega)
  have e2 := hC.1 73 2 (by omega)
  have e3 := hC.1 73 3 (by omega)
  have f0 := hR 99 52 (by omega) (by omega) (by omega) (by omega)
  have f1 := hR 99 53 (by omega) (by omega) (by omega) (by omega)
  have f2 := hR 101 5 (by omega) (by omega) (by omega) (by omega)
  refine ⟨?_, ?_, ?_, ?_⟩
  · rw [e2, f0]
    exact h.md.ca
  · rw [e3, f0]
    exact h.md.co
  · rw [e1, f0, f1]
    exact h.md.ab
  · rw [e0, f0, f2]
    exact h.md.fl
theorem Bas.fh' {Z : Nat → Nat} {N o k many : Nat} {C0 R0 C R : Mem} (h : Bas Z N o k many C0 R0) (hC : CB C0 C) (hR : RB R0 R) : FH Z many C R := h.fh.cong (fun c j a b => hC.1 c j (by omega)) (hR _ _ (by omega) (by omega) (by omega) (by omega)) (hR _ _ (by omega) (by omega) (by omega) (by omega)) (fun c j a b => hR c j (by omega) (by omega) (by omega) (by omega))
/-- a guess begun, on any two memories -/
theorem Bas.beg {Z : Nat → Nat} {N o k many : Nat} {C0 R0 C R : Mem} (h : Bas Z N o k many C0 R0) (hC : CB C0 C) (hR : RB R0 R) {g : Nat} (hg : g < 10) : ∃ M M', fX0_begin N 84 o C = some M ∧ fX12_starts N (1 : Int32) R = some M' ∧ BathR Z 84 1 (mI M 88 k (zN (10 * g))) (mI M' 128 (6 * 1 + k) (zN (10 * g))) ∧ FC o 84 C M ∧ FR 1 R M' := by
  have O := h.od' hC hR
  have hz := O.zb
  have hk := h.hk
  obtain ⟨M, M', a1, a2, a3, a4, a5, a6⟩ := begin_rel (N := N) (b := 84) (s := 1) (by have := h.hN; omega) O (by omega) (by omega)
  refine ⟨M, M', a1, a2, ?_, a4, a5⟩
  exact a3.up (j := 2) (k := k) (by omega) (by omega) (zN (10 * g)) (fun z => absurd z (by omega)) (fun z => absurd z (by omega)) (fun _ _ => ⟨10 * g, by omega, by omega, rfl⟩)
theorem begin_9 {N o : Nat} {C M : Mem} {Z : Nat → Nat} {R : Mem} (hN : 100 ≤ N) (hO : OrdR Z o C R) (e : fX0_begin N 84 o C = some M) : M.1 84 9 = 0 := by
  obtain ⟨M2, M', a1, a2, a3, a4, a5, a6⟩ := begin_rel (N := N) (b := 84) (s := 1) hN hO (by omega) (by omega)
  rw [e] at a1
  rw [Option.some.inj a1]
  exact a6
/-- the two runs of a guess from the base -/
theorem Bas.run {Z : Nat → Nat} {N o k many : Nat} {C0 R0 : Mem} (h : Bas Z N o k many C0 R0) {g : Nat} (hg : g < 10) : ∀ i, BathR Z 84 1 (cSt N o k g C0 i) (rSt N k g R0 i) ∧ CB C0 (cSt N o k g C0 i) ∧ RB R0 (rSt N k g R0 i) ∧ (cSt N o k g C0 i).1 84 9 = zN i ∧ fX5_pass N o 84 (cSt N o k g C0 i) = some (cSt N o k g C0 (i + 1)) ∧ fX12_passes N (1 : Int32) (0 : Int32) (rSt N k g R0 i) = some (rSt N k g R0 (i + 1)) := by
  have hN := h.hN
  have ho := h.od.o25
  have hz := h.od.zb
  have hk := h.hk
  have step : ∀ i, BathR Z 84 1 (cSt N o k g C0 i) (rSt N k g R0 i) → CB C0 (cSt N o k g C0 i) → RB R0 (rSt N k g R0 i) → (cSt N o k g C0 i).1 84 9 = zN i → (fX5_pass N o 84 (cSt N o k g C0 i) = some (cSt N o k g C0 (i + 1)) ∧ fX12_passes N (1 : Int32) (0 : Int32) (rSt N k g R0 i) = some (rSt N k g R0 (i + 1))) ∧ BathR Z 84 1 (cSt N o k g C0 (i + 1)) (rSt N k g R0 (i + 1)) ∧ CB C0 (cSt N o k g C0 (i + 1)) ∧ RB R0 (rSt N k g R0 (i + 1)) ∧ (cSt N o k g C0 (i + 1)).1 84 9 = zN (i + 1) := by
    intro i hB hC hR hm
    obtain ⟨m1, m2, p1, p2, p3, p4, p5⟩ := pass_relE (N := N) (by omega) (h.od' hC hR) hB (h.md' hC hR)
    have p2 : fX12_passes N (1 : Int32) (0 : Int32) (rSt N k g R0 i) = some m2 := p2
    have e1 : cSt N o k g C0 (i + 1) = m1 := by rw [cSt, p1]; rfl
    have e2 : rSt N k g R0 (i + 1) = m2 := by rw [rSt, p2]; rfl
    rw [e1, e2]
    exact ⟨⟨p1, p2⟩, p3, hC.fc (by omega) p4.1, hR.fr p5, by rw [p4.2, hm, zN_s]⟩
  have all : ∀ i, BathR Z 84 1 (cSt N o k g C0 i) (rSt N k g R0 i) ∧ CB C0 (cSt N o k g C0 i) ∧ RB R0 (rSt N k g R0 i) ∧ (cSt N o k g C0 i).1 84 9 = zN i := by
    intro i
    induction i with
    | zero =>
      obtain ⟨M, M', a1, a2, a3, a4, a5⟩ := h.beg CB.rf RB.rf hg
      have e1 : cSt N o k g C0 0 = mI M 88 k (zN (10 * g)) := by rw [cSt, a1]; rfl
      have e2 : rSt N k g R0 0 = mI M' 128 (6 * 1 + k) (zN (10 * g)) := by rw [rSt, a2]; rfl
      rw [e1, e2]
      refine ⟨a3, CB.rf.fc (by omega) (a4.tr (FC.mI (by omega))), RB.rf.fr (a5.tr (FR.mI (by omega))), ?_⟩
      rw [mI_n (by omega)]
      exact begin_9 (by omega) h.od a1
    | succ i ih => exact (step i ih.1 ih.2.1 ih.2.2.1 ih.2.2.2).2
  intro i
  obtain ⟨b1, b2, b3, b4⟩ := all i
  exact ⟨b1, b2, b3, b4, (step i b1 b2 b3 b4).1⟩
def eG (N k g : Nat) (R0 : Mem) (i : Nat) : Int32 := (fX12_isSo N (zN i) (rSt N k g R0 i)).getD 0
def tG (N k g : Nat) (R0 : Mem) (i : Nat) : Bool := decide ((rSt N k g R0 i).1 129 (6 * 1 + k) ≠ -1)
theorem Bas.agr {Z : Nat → Nat} {N o k many : Nat} {C0 R0 C R : Mem} (h : Bas Z N o k many C0 R0) (hC : CB C0 C) (hR : RB R0 R) {i : Nat} (hi : i ≤ 1000) (hB : BathR Z 84 1 C R) (em : C.1 84 9 = zN i) : ∃ e, (e = 0 ∨ e = 1) ∧ fX1_agreeWith N 84 C = some e ∧ fX12_isSo N (zN i) R = some e ∧ ((∀ j, j < many → C0.1 82 j = 1 → R0.1 140 j = -1 → R0.1 136 j ≠ zN i) → e = 1) := by
  have hN := h.hN
  have F := h.fh' hC hR
  have hb := F.mb
  obtain ⟨e, e1, e2, e3, e4⟩ := agree_loop (N := N) (i := i) F (by have := h.od.zb; omega) hi em (fun k hk => hB.eq 4 k (by omega) hk) many 0 N N (by omega) (by omega) (by omega)
  refine ⟨e, e1, e2, e3, fun z => e4 (fun j hj => ?_)⟩
  rw [hC.1 _ _ (by omega), hR _ _ (by omega) (by omega) (by omega) (by omega), hR _ _ (by omega) (by omega) (by omega) (by omega)]
  exact z j hj
/-- any class memory in the run of a guess -/
theorem Bas.cls {Z : Nat → Nat} {N o k many : Nat} {C0 R0 C : Mem} (h : Bas Z N o k many C0 R0) (hC : CB C0 C) {g i : Nat} (hg : g < 10) (hi : i < 1000) (hB : BathR Z 84 1 C (rSt N k g R0 i)) : ∃ C', fX5_pass N o 84 C = some C' ∧ FC o 84 C C' ∧ BathR Z 84 1 C' (rSt N k g R0 (i + 1)) ∧ C'.1 84 9 = zN (i + 1) ∧ fX1_agreeWith N 84 C' = some (eG N k g R0 (i + 1)) ∧ (eG N k g R0 (i + 1) = 0 ∨ eG N k g R0 (i + 1) = 1) ∧ ((tG N k g R0 (i + 1) = true ∧ ¬ (C'.1 89 k < 0)) ∨ (tG N k g R0 (i + 1) = false ∧ C'.1 89 k < 0)) := by
  have hN := h.hN
  have ho := h.od.o25
  have hz := h.od.zb
  have hk := h.hk
  obtain ⟨b1, b2, b3, b4, b5, b6⟩ := h.run hg i
  obtain ⟨d1, d2, d3, d4, _, _⟩ := h.run hg (i + 1)
  obtain ⟨m1, m2, p1, p2, p3, p4, p5⟩ := pass_rel (N := N) (by omega) (h.od' hC b3) hB (h.md' hC b3)
  have p2 : fX12_passes N (1 : Int32) (0 : Int32) (rSt N k g R0 i) = some m2 := p2
  rw [b6] at p2
  have p2 := Option.some.inj p2
  subst p2
  have em : m1.1 84 9 = zN (i + 1) := (p3.mi.trans d1.mi.symm).trans d4
  obtain ⟨e, e1, e2, e3, _⟩ := h.agr (hC.fc (by omega) p4) d3 (i := i + 1) (by omega) p3 em
  have ee : eG N k g R0 (i + 1) = e := by
    unfold eG
    rw [e3]
    rfl
  rw [ee]
  refine ⟨m1, p1, p4, p3, em, e2, e1, ?_⟩
  unfold tG
  rcases p3.pl k (by omega) with ⟨q1, q2⟩ | ⟨_, t, t1, q1, q2, _⟩
  · right
    rw [q2, show m1.1 89 k = -2 from q1]
    exact ⟨by decide, by decide⟩
  · left
    rw [q2, show m1.1 89 k = zN t from q1]
    exact ⟨decide_eq_true (show zN t ≠ (-1 : Int32) from fun z => by rw [zN_m1 (by omega)] at z; exact z), znn (by omega)⟩
/-- any memory of the reference in the run of a guess -/
theorem Bas.ref {Z : Nat → Nat} {N o k many : Nat} {C0 R0 R : Mem} (h : Bas Z N o k many C0 R0) (hR : RB R0 R) {g i : Nat} (hg : g < 10) (hi : i < 1000) (hB : BathR Z 84 1 (cSt N o k g C0 i) R) : ∃ R', fX12_passes N (1 : Int32) (0 : Int32) R = some R' ∧ FR 1 R R' ∧ BathR Z 84 1 (cSt N o k g C0 (i + 1)) R' ∧ fX12_isSo N (zN (i + 1)) R' = some (eG N k g R0 (i + 1)) ∧ ((tG N k g R0 (i + 1) = true ∧ ¬ (R'.1 129 (6 * 1 + k) = -1)) ∨ (tG N k g R0 (i + 1) = false ∧ R'.1 129 (6 * 1 + k) = -1)) := by
  have hN := h.hN
  have ho := h.od.o25
  have hz := h.od.zb
  have hk := h.hk
  obtain ⟨b1, b2, b3, b4, b5, b6⟩ := h.run hg i
  obtain ⟨d1, d2, d3, d4, _, _⟩ := h.run hg (i + 1)
  obtain ⟨m1, m2, p1, p2, p3, p4, p5⟩ := pass_rel (N := N) (by omega) (h.od' b2 hR) hB (h.md' b2 hR)
  rw [b5] at p1
  have p1 := Option.some.inj p1
  subst p1
  obtain ⟨e, e1, e2, e3, _⟩ := h.agr d2 (hR.fr p5) (i := i + 1) (by omega) p3 d4
  obtain ⟨e', f1, f2, f3, _⟩ := h.agr d2 d3 (i := i + 1) (by omega) d1 d4
  rw [e2] at f2
  have f2 := Option.some.inj f2
  have ee : eG N k g R0 (i + 1) = e := by
    unfold eG
    rw [f3, ← f2]
    rfl
  rw [ee]
  refine ⟨m2, p2, p5, p3, e3, ?_⟩
  unfold tG
  rcases p3.pl k (by omega) with ⟨q1, q2⟩ | ⟨_, t, t1, q1, q2, _⟩
  · right
    rcases d1.pl k (by omega) with ⟨r1, r2⟩ | ⟨_, t', s1, r1, r2, _⟩
    · rw [r2, q2]
      exact ⟨by decide, rfl⟩
    · rw [q1] at r1
      have r1 := r1.symm
      rw [zN_m2 (by omega)] at r1
      exact r1.elim
  · left
    rcases d1.pl k (by omega) with ⟨r1, r2⟩ | ⟨_, t', s1, r1, r2, _⟩
    · rw [q1, zN_m2 (by omega)] at r1
      exact r1.elim
    · rw [r2, q2]
      exact ⟨decide_eq_true (show zN t' ≠ (-1 : Int32) from fun z => by rw [zN_m1 (by omega)] at z; exact z), by rw [zN_m1 (by omega)]; exact id⟩
def okG (N k : Nat) (R0 : Mem) (up g : Nat) : Bool := decide (∀ j, j < up → eG N k g R0 (j + 1) = 1)
/-- bits of the minutes in which he is in a tub -/
def sG (N k g : Nat) (R0 : Mem) (i : Nat) : Nat := bS (fun j => if j = 0 then false else tG N k g R0 j) (i + 1)
theorem find_in {Z : Nat → Nat} {N o k many g up : Nat} {C0 R0 : Mem} {k135 : Nat → Int32 → Int32 → Int32 → Int32 → Mem → Option (Int32 × Mem)} (h : Bas Z N o k many C0 R0) (hg : g < 10) (hu : up ≤ 60) : ∀ rem i nC C, i + rem = up → rem + 1 < nC → CB C0 C → BathR Z 84 1 C (rSt N k g R0 i) → (∀ j, j < i → eG N k g R0 (j + 1) = 1) → C.2.1 94 g = zJ (sG N k g R0 i) → ∃ C', fX2_find_66 N k135 nC o (zN k) (zN up) (zN g) (1 : Int32) (zN i) C = k135 o (zN k) (zN up) (zN g) (if okG N k R0 up g = true then 1 else 0) C' ∧ (okG N k R0 up g = true → C'.2.1 94 g = zJ (sG N k g R0 up)) ∧ CB C0 C' ∧ (∀ j, j ≠ g → C'.2.1 94 j = C.2.1 94 j) ∧ (∀ j, C'.1 83 j = C.1 83 j) := by
  have hN := h.hN
  have ho := h.od.o25
  have hz := h.od.zb
  have hk := h.hk
  intro rem
  induction rem with
  | zero =>
    intro i nC C hi hn hC hB hj hs
    obtain ⟨n', rfl, _⟩ := fuel (show 0 < nC by omega)
    have ok : okG N k R0 up g = true := decide_eq_true (fun j hj' => hj j (by omega))
    rw [fX2_find_66, if_pos (zle' (by omega) (by omega) (by omega)), if_pos ok]
    refine ⟨C, rfl, fun _ => ?_, hC, fun _ _ => rfl, fun _ => rfl⟩
    rw [hs, show i = up from by omega]
  | succ rem ih =>
    intro i nC C hi hn hC hB hj hs
    obtain ⟨n', rfl, hn⟩ := fuel (show rem + 1 < nC by omega)
    obtain ⟨C1, a1, a2, a3, a4, a5, a6, a7⟩ := h.cls hC hg (show i < 1000 by omega) hB
    rw [fX2_find_66, if_neg (zle (by omega) (by omega) (by omega)), if_neg z10, a1, b_some, a5, b_some, g_in (k := k) (by omega) (by omega), zN_cl (n := k) (by omega), a4, zN_s]
    have hC1 := hC.fc (by omega) a2
    have e94 : ∀ j, C1.2.1 94 j = C.2.1 94 j := fun j => a2.2.1 94 j (by omega) (by omega) (by omega)
    have e83 : ∀ j, C1.1 83 j = C.1 83 j := fun j => a2.1 83 j (by omega)
    -- what is next, whichever memory
    have next : ∀ C2 : Mem, CB C0 C2 → BathR Z 84 1 C2 (rSt N k g R0 (i + 1)) → C2.2.1 94 g = zJ (sG N k g R0 (i + 1)) → (∀ j, j ≠ g → C2.2.1 94 j = C.2.1 94 j) → (∀ j, C2.1 83 j = C.1 83 j) → ∃ C', fX2_find_66 N k135 n' o (zN k) (zN up) (zN g) (eG N k g R0 (i + 1)) (zN (i + 1)) C2 = k135 o (zN k) (zN up) (zN g) (if okG N k R0 up g = true then 1 else 0) C' ∧ (okG N k R0 up g = true → C'.2.1 94 g = zJ (sG N k g R0 up)) ∧ CB C0 C' ∧ (∀ j, j ≠ g → C'.2.1 94 j = C.2.1 94 j) ∧ (∀ j, C'.1 83 j = C.1 83 j) := by
      intro C2 c1 c2 c3 c4 c5
      rcases a6 with e0 | e1
      · have no : okG N k R0 up g = false := decide_eq_false (fun z => by
          have := z i (by omega)
          rw [e0] at this
          exact absurd this (by decide))
        rw [e0, no]
        obtain ⟨n'', rfl, _⟩ := fuel (show 0 < n' by omega)
        refine ⟨C2, ?_, fun z => absurd z (by decide), c1, c4, c5⟩
        rw [fX2_find_66, if_neg (show ¬ (false = true) from by decide)]
        by_cases w : zN up ≤ zN (i + 1)
        · rw [if_pos w]
        · rw [if_neg w, if_pos rfl]
      · rw [e1]
        obtain ⟨C', r1, r2, r3, r4, r5⟩ := ih (i + 1) n' C2 (by omega) (by omega) c1 c2 (fun j hj' => by
          by_cases y : j = i
          · rw [y]
            exact e1
          · exact hj j (by omega)) c3
        exact ⟨C', r1, r2, r3, fun j w => (r4 j w).trans (c4 j w), fun j => (r5 j).trans (c5 j)⟩
    rcases a7 with ⟨t1, t2⟩ | ⟨t1, t2⟩
    · rw [if_neg t2, g_in (k := g) (by omega) (by omega), g_in (k := g) (by omega) (by omega), zN_cl (n := g) (by omega), (sh60 (i + 1) (by omega)).2, e94, hs]
      have E : zJ (sG N k g R0 i) ||| zJ (2 ^ (i + 1)) = zJ (sG N k g R0 (i + 1)) := by
        have q : sG N k g R0 (i + 1) = sG N k g R0 i + 2 ^ (i + 1) := by
          unfold sG
          rw [bS, if_neg (show ¬ (i + 1 = 0) by omega), t1, if_pos rfl]
        rw [q]
        exact orJ (j := i + 1) (by omega) (bS_lt _ _)
      rw [E]
      refine next _ ⟨hC1.1, hC1.2.1, fun c q => ?_⟩ (a3.cong (fun _ _ _ _ => rfl) ?_ (fun _ _ _ => rfl) (fun _ _ _ _ _ => rfl)) (mJ_s ⟨rfl, rfl⟩) (fun j w => ?_) e83
      · rw [mJ_n (by omega)]
        exact hC1.2.2 c q
      · rw [mJ_n (by omega)]
      · rw [mJ_n (by omega), e94]
    · rw [if_pos t2]
      refine next C1 hC1 a3 ?_ (fun j _ => e94 j) e83
      rw [e94, hs]
      have q : sG N k g R0 (i + 1) = sG N k g R0 i := by
        unfold sG
        rw [bS, if_neg (show ¬ (i + 1 = 0) by omega), t1, if_neg (by decide), Nat.add_zero]
      rw [q]
theorem find_loop {Z : Nat → Nat} {N o k many up : Nat} {C0 R0 : Mem} (h : Bas Z N o k many C0 R0) (hu : up ≤ 60) : ∀ rem g nC C, g + rem = 10 → rem < nC → CB C0 C → C.1 83 2 = zN (bS (okG N k R0 up) g) → (∀ g', g' < g → okG N k R0 up g' = true → C.2.1 94 g' = zJ (sG N k g' R0 up)) → ∃ C', fX2_find_22 N nC o (zN k) (zN up) (zN g) C = some (zN (bS (okG N k R0 up) 10), C') ∧ C'.1 83 2 = zN (bS (okG N k R0 up) 10) ∧ (∀ g', g' < 10 → okG N k R0 up g' = true → C'.2.1 94 g' = zJ (sG N k g' R0 up)) ∧ CB C0 C' := by
  have hN := h.hN
  have ho := h.od.o25
  have hz := h.od.zb
  have hk := h.hk
  intro rem
  induction rem with
  | zero =>
    intro g nC C hg hn hC h2 h3
    obtain ⟨n', rfl, _⟩ := fuel hn
    have eg : g = 10 := by omega
    rw [eg] at h2 h3
    rw [fX2_find_22, if_pos (show (10 : Int32) ≤ zN g from zle' (a := 10) (by omega) (by omega) (by omega)), h2]
    exact ⟨C, rfl, h2, h3, hC⟩
  | succ rem ih =>
    intro g nC C hg hn hC h2 h3
    obtain ⟨n', rfl, hn⟩ := fuel hn
    obtain ⟨M, M', a1, a2, a3, a4, a5⟩ := h.beg hC RB.rf (show g < 10 by omega)
    have er : rSt N k g R0 0 = mI M' 128 (6 * 1 + k) (zN (10 * g)) := by rw [rSt, a2]; rfl
    rw [← er] at a3
    rw [fX2_find_22, if_neg (show ¬ ((10 : Int32) ≤ zN g) from zle (a := 10) (by omega) (by omega) (by omega)), a1, b_some, g_in (k := k) (by omega) (by omega), g_in (k := g) (by omega) (by omega), zN_cl (n := k) (by omega), zN_cl (n := g) (by omega), show (10 : Int32) * zN g = zN (10 * g) from zN_mul 10 g]
    have F1 : FC o 84 C (mI M 88 k (zN (10 * g))) := a4.tr (FC.mI (by omega))
    have C1 := hC.fc (by omega) F1
    obtain ⟨C', r1, r2, r3, r4, r5⟩ := find_in (k135 := fX2_find_135 N (fun x1 x4 x5 x6 m => fX2_find_22 N n' x1 x4 x5 x6 m)) h (show g < 10 by omega) hu up 0 N (mJ (mI M 88 k (zN (10 * g))) 94 g (0 : Int64)) (by omega) (by omega) ⟨C1.1, C1.2.1, fun c q => by rw [mJ_n (by omega)]; exact C1.2.2 c q⟩ (a3.cong (fun _ _ _ _ => rfl) (by rw [mJ_n (by omega)]) (fun _ _ _ => rfl) (fun _ _ _ _ _ => rfl)) (fun j hj => absurd hj (by omega)) (by rw [mJ_s ⟨rfl, rfl⟩]; unfold sG; rw [bS, bS, if_neg (show ¬ ((if (0 : Nat) = 0 then false else tG N k g R0 0) = true) from by rw [if_pos rfl]; decide)]; rfl)
    rw [show fX2_find_66 N (fX2_find_135 N (fun x1 x4 x5 x6 m => fX2_find_22 N n' x1 x4 x5 x6 m)) N o (zN k) (zN up) (zN g) (1 : Int32) (0 : Int32) (mJ (mI M 88 k (zN (10 * g))) 94 g (0 : Int64)) = _ from r1]
    have e83 : C'.1 83 2 = zN (bS (okG N k R0 up) g) := by
      rw [r5, mJ_1, F1.1 83 2 (by omega), h2]
    have e94 : ∀ g', g' < g → okG N k R0 up g' = true → C'.2.1 94 g' = zJ (sG N k g' R0 up) := by
      intro g' hg' ok
      rw [r4 g' (by omega), mJ_n (by omega), F1.2.1 94 g' (by omega) (by omega) (by omega)]
      exact h3 g' hg' ok
    unfold fX2_find_135
    by_cases ok : okG N k R0 up g = true
    · rw [if_pos ok, if_neg z10, e83, (sh10 g (by omega)).2, or10 g (by omega) _ (bS_lt _ _), zN_s]
      refine ih (g + 1) n' _ (by omega) (by omega) ⟨fun c j q => ?_, r3.2.1, r3.2.2⟩ ?_ (fun g' hg' ok' => ?_)
      · rw [mI_n (by omega)]
        exact r3.1 c j q
      · rw [mI_s ⟨rfl, rfl⟩, bS, if_pos ok]
      · rw [mI_2]
        by_cases y : g' = g
        · rw [y]
          exact r2 ok
        · exact e94 g' (by omega) ok'
    · rw [if_neg ok, if_pos rfl, zN_s]
      refine ih (g + 1) n' C' (by omega) (by omega) r3 ?_ (fun g' hg' ok' => ?_)
      · rw [e83, bS, if_neg ok, Nat.add_zero]
      · by_cases y : g' = g
        · rw [y] at ok'
          exact absurd ok' ok
        · exact e94 g' (by omega) ok'
theorem find_ok {Z : Nat → Nat} {N o k many up : Nat} {C0 R0 : Mem} (h : Bas Z N o k many C0 R0) (hu : up ≤ 60) : ∃ C', fX2_find N o (zN k) (zN up) C0 = some (zN (bS (okG N k R0 up) 10), C') ∧ C'.1 83 2 = zN (bS (okG N k R0 up) 10) ∧ (∀ g', g' < 10 → okG N k R0 up g' = true → C'.2.1 94 g' = zJ (sG N k g' R0 up)) ∧ CB C0 C' := by
  have hN := h.hN
  have ho := h.od.o25
  have hz := h.od.zb
  unfold fX2_find
  rw [hasK_v (z := Z 0) (by rw [mI_n (by omega)]; exact h.od.sC 0 (by omega)) (by omega) (by have := h.hk; omega), b_some, if_pos h.hk, if_neg z10]
  exact find_loop h hu 10 0 N (mI C0 83 2 0) (by omega) (by omega) ⟨fun c j q => mI_n (by omega), rfl, fun _ _ => rfl⟩ (mI_s ⟨rfl, rfl⟩) (fun g' hg' => absurd hg' (by omega))
theorem fits_loop {Z : Nat → Nat} {N o k many up g : Nat} {C0 R0 : Mem} (h : Bas Z N o k many C0 R0) (hu : up ≤ 60) (hg : g < 10) : ∀ rem i nR R, i + rem = up → rem < nR → RB R0 R → BathR Z 84 1 (cSt N o k g C0 i) R → (∀ j, j < i → eG N k g R0 (j + 1) = 1) → ∃ R', fX12_fitsBorne_9 N nR (zN up) (zN (i + 1)) R = some ((if okG N k R0 up g = true then 1 else 0), R') ∧ RB R0 R' := by
  have hN := h.hN
  intro rem
  induction rem with
  | zero =>
    intro i nR R hi hn hR hB hj
    obtain ⟨n', rfl, _⟩ := fuel hn
    have ok : okG N k R0 up g = true := decide_eq_true (fun j hj' => hj j (by omega))
    rw [fX12_fitsBorne_9, if_pos (show zN up < zN (i + 1) from by rw [zN_lt (by omega) (by omega)]; omega), if_pos ok]
    exact ⟨R, rfl, hR⟩
  | succ rem ih =>
    intro i nR R hi hn hR hB hj
    obtain ⟨n', rfl, hn⟩ := fuel hn
    obtain ⟨R1, a1, a2, a3, a4, _⟩ := h.ref hR hg (show i < 1000 by omega) hB
    obtain ⟨_, d2, d3, d4, _, _⟩ := h.run hg (i + 1)
    have e01 : eG N k g R0 (i + 1) = 0 ∨ eG N k g R0 (i + 1) = 1 := by
      obtain ⟨e, e1, e2, e3, _⟩ := h.agr d2 (hR.fr a2) (i := i + 1) (by omega) a3 d4
      rw [a4] at e3
      rw [Option.some.inj e3]
      exact e1
    rw [fX12_fitsBorne_9, if_neg (show ¬ (zN up < zN (i + 1)) from zlt (by omega) (by omega) (by omega)), a1, b_some, a4, b_some]
    rcases e01 with e0 | e1
    · have no : okG N k R0 up g = false := decide_eq_false (fun z => by
        have := z i (by omega)
        rw [e0] at this
        exact absurd this (by decide))
      rw [e0, if_pos rfl, no]
      exact ⟨R1, rfl, hR.fr a2⟩
    · rw [e1, if_neg z10, zN_s]
      exact ih (i + 1) n' R1 (by omega) (by omega) (hR.fr a2) a3 (fun j hj' => by
        by_cases y : j = i
        · rw [y]
          exact e1
        · exact hj j (by omega))
theorem Bas.swith {Z : Nat → Nat} {N o k many : Nat} {C0 R0 R : Mem} (h : Bas Z N o k many C0 R0) (hR : RB R0 R) {g : Nat} (hg : g < 10) : ∃ R', fX12_startsWith N (zN k) ((10 : Int32) * zN g) R = some R' ∧ FR 1 R R' ∧ BathR Z 84 1 (cSt N o k g C0 0) R' := by
  have hk := h.hk
  have hz := h.od.zb
  obtain ⟨M, M', a1, a2, a3, a4, a5⟩ := h.beg CB.rf hR hg
  have ec : cSt N o k g C0 0 = mI M 88 k (zN (10 * g)) := by rw [cSt, a1]; rfl
  refine ⟨mI M' 128 (6 * 1 + k) (zN (10 * g)), ?_, a5.tr (FR.mI (by omega)), by rw [ec]; exact a3⟩
  unfold fX12_startsWith
  rw [a2, b_some, z6a, g_in (by omega) (by omega), zN_cl (by omega), show (10 : Int32) * zN g = zN (10 * g) from zN_mul 10 g]
theorem by_loop {Z : Nat → Nat} {N o k many up : Nat} {C0 R0 : Mem} (h : Bas Z N o k many C0 R0) (hu : up ≤ 60) : ∀ rem g nR R, g + rem = 10 → rem < nR → RB R0 R → ∃ R', fX12_borneBy_124 N nR (zN k) (zN up) (zN (bS (okG N k R0 up) g)) (zN g) R = some (zN (bS (okG N k R0 up) 10), R') ∧ RB R0 R' := by
  have hN := h.hN
  intro rem
  induction rem with
  | zero =>
    intro g nR R hg hn hR
    obtain ⟨n', rfl, _⟩ := fuel hn
    rw [fX12_borneBy_124, if_pos (show (10 : Int32) ≤ zN g from zle' (a := 10) (by omega) (by omega) (by omega)), show g = 10 from by omega]
    exact ⟨R, rfl, hR⟩
  | succ rem ih =>
    intro g nR R hg hn hR
    obtain ⟨n', rfl, hn⟩ := fuel hn
    obtain ⟨R1, s1, s2, s3⟩ := h.swith hR (show g < 10 by omega)
    obtain ⟨R2, f1, f2⟩ := fits_loop h hu (show g < 10 by omega) up 0 N R1 (by omega) (by omega) (hR.fr s2) s3 (fun j hj => absurd hj (by omega))
    rw [fX12_borneBy_124, if_neg (show ¬ ((10 : Int32) ≤ zN g) from zle (a := 10) (by omega) (by omega) (by omega))]
    unfold fX12_fitsBorne
    rw [s1, b_some, show fX12_fitsBorne_9 N N (zN up) (1 : Int32) R1 = _ from f1, b_some, zN_s]
    by_cases ok : okG N k R0 up g = true
    · rw [if_pos ok, if_neg z10, (sh10 g (by omega)).2, or10 g (by omega) _ (bS_lt _ _)]
      have := ih (g + 1) n' R2 (by omega) (by omega) f2
      rw [bS, if_pos ok] at this
      exact this
    · rw [if_neg ok, if_pos rfl, Int32.or_zero]
      have := ih (g + 1) n' R2 (by omega) (by omega) f2
      rw [bS, if_neg ok, Nat.add_zero] at this
      exact this
