/-! borne, ask -/
theorem bS_cong {f f' : Nat → Bool} : ∀ n, (∀ g, g < n → f g = f' g) → bS f n = bS f' n := by
  intro n
  induction n with
  | zero => intro _; rfl
  | succ n ih =>
    intro h
    rw [bS, bS, ih (fun g hg => h g (by omega)), h n (by omega)]
theorem borne_base {Z : Nat → Nat} {N o nt nu nf k : Nat} {mC R : Mem} (hN : 1000 ≤ N) (h : InvZ Z o nt nu nf mC R) (hk : k < Z 0) : ∃ many C1 C2 R1 l, Bas Z N o k many C2 R1 ∧ l ≤ 60 ∧ (∀ j v, j < many → C2.1 82 j = 1 → R1.1 140 j = -1 → R1.1 136 j = zN v → v ≤ 60 → v ≤ l) ∧ fX1_sift N mC = some C1 ∧ C1.2.2 = mC.2.2 ∧ fX5_asItGoes o C1 = some C2 ∧ fX1_lastMinute N C2 = some (zN l) ∧ fX12_borneBy N (zN k) R = fX12_borneBy_124 N N (zN k) (zN l) (0 : Int32) (0 : Int32) R1 ∧ (∀ C', CB C2 C' → TC mC C') ∧ (∀ R', RB R1 R' → TR R R') := by
  have ho := h.od.o25
  obtain ⟨many, C1, R1, a1, a2, a3, a4, a5, a6⟩ := sift_rel (N := N) (x1 := zN k) (x2 := 0) (by omega) h.fa
  obtain ⟨C2, c1, c2, c3, c4, _, _, _⟩ := asit_rel (o := o) (m := C1) (mR := R1) (by omega) (by rw [a6 _ _ (by omega)]; exact h.ty.1) (by rw [a4 _ _ (by omega), a6 _ _ (by omega)]; exact h.od.fl.1)
  have F : FH Z many C2 R1 := a1.cong (fun c j p q => c3 c j (by omega)) rfl rfl (fun _ _ _ _ => rfl)
  have hb := F.mb
  have O : OrdR Z o C2 R1 := h.od.cong (fun c j q => by rw [c3 c j (by omega), a4 c j (by omega)]) (fun c j p q => a6 c j (by omega))
  obtain ⟨l, l1, l2, l3, l4, l5⟩ := last_rel2 (N := N) (x1 := zN k) (k119 := fX12_borneBy_119 N) F many 0 N N 0 (by omega) (by omega) (by omega) (by omega)
  refine ⟨many, C1, C2, R1, l, ⟨hN, O, c2, F, hk⟩, l2, fun j v p => l3 j v (by omega) p, a2, by rw [a5], c1, l4, ?_, fun C' q => ⟨fun c j w => ?_, fun c w => ?_, ?_⟩, fun R' q c j w => ?_⟩
  · unfold fX12_borneBy
    rw [a3]
    unfold fX12_borneBy_73
    rw [show fX12_borneBy_75 N (fX12_borneBy_119 N) N (zN k) (0 : Int32) (0 : Int32) R1 = _ from l5]
    rfl
  · unfold KC at w
    rw [q.1 c j (by omega), c3 c j (by omega), a4 c j (by omega)]
  · rw [q.2.2 c w, c4, a5]
  · rw [q.2.1, c4, a5]
  · unfold KR at w
    rw [q c j (by omega) (by omega) (by omega) (by omega), a6 c j (by omega)]
theorem op29 {N : Nat} (hN : 1000 ≤ N) : OP29 Inv N := by
  intro mC mR x1 ⟨Z, o, nt, nu, nf, h⟩
  have h := h.th 0
  have hlo := h.lo
  have hz := h.od.zb
  unfold fX11_borne fX12_borne
  generalize mI mR 99 0 (0 : Int32) = R at h ⊢
  rw [h.sp.1, if_pos hlo]
  rcases kni_dec h.od x1 with ⟨k, k1, rfl, k3, k4⟩ | ⟨k3, k4⟩
  · rw [k3, k4, b_some, b_some, if_neg z10, if_neg z10]
    obtain ⟨many, C1, C2, R1, l, B, l1, l2, a1, a2, a3, a4, a5, a6, a7⟩ := borne_base hN h k1
    obtain ⟨C', f1, f2, f3, f4⟩ := find_ok B l1
    obtain ⟨R', g1, g2⟩ := by_loop B l1 10 0 N R1 (by omega) (by omega) RB.rf
    rw [a1, b_some, a2, h.sp.1, if_pos hlo, a3, b_some, show C2.2.2 = mC.2.2 from (a6 C2 CB.rf).2.2, h.sp.1, if_pos hlo, a4, b_some, f1, b_some, a5, show fX12_borneBy_124 N N (zN k) (zN l) (0 : Int32) (0 : Int32) R1 = _ from g1, b_some]
    exact ⟨_, _, _, rfl, rfl, (h.t (a6 C' f4) (a7 R' g2)).i⟩
  · rw [k3, k4, b_some, b_some, if_pos rfl, if_pos rfl]
    exact ⟨-1, _, _, rfl, rfl, h.i⟩
def cS (f t : Nat → Bool) : Nat → Nat
  | 0 => 0
  | g + 1 => cS f t g + (if f g = true then (if t g = true then 1 else 0) else 0)
theorem cS_le (f t : Nat → Bool) : ∀ g, cS f t g ≤ cS f (fun _ => true) g ∧ cS f t g ≤ g := by
  intro g
  induction g with
  | zero => exact ⟨Nat.le_refl _, Nat.le_refl _⟩
  | succ g ih =>
    rw [cS, cS]
    by_cases q : f g = true
    · rw [if_pos q, if_pos q, if_pos rfl]
      by_cases w : t g = true
      · rw [if_pos w]
        omega
      · rw [if_neg w]
        omega
    · rw [if_neg q, if_neg q]
      omega
def popc (B : Nat) : Nat := B / 2 ^ 0 % 2 + B / 2 ^ 1 % 2 + B / 2 ^ 2 % 2 + B / 2 ^ 3 % 2 + B / 2 ^ 4 % 2 + B / 2 ^ 5 % 2 + B / 2 ^ 6 % 2 + B / 2 ^ 7 % 2 + B / 2 ^ 8 % 2 + B / 2 ^ 9 % 2
def mZ0 : Mem := (fun _ _ => 0, fun _ _ => 0, fun _ => 0)
theorem bc_all : ∀ B, B < 1024 → fJ6_bitCount_0f7a4 (zN B) mZ0 = some (zN (popc B)) := by decide +kernel
theorem bc_ok {B : Nat} (h : B < 1024) (m : Mem) : fJ6_bitCount_0f7a4 (zN B) m = some (zN (popc B)) := bc_all B h
theorem popc_bS (f : Nat → Bool) : popc (bS f 10) = cS f (fun _ => true) 10 := by
  unfold popc
  rw [bS_bit f 10 0 (by omega), bS_bit f 10 1 (by omega), bS_bit f 10 2 (by omega), bS_bit f 10 3 (by omega), bS_bit f 10 4 (by omega), bS_bit f 10 5 (by omega), bS_bit f 10 6 (by omega), bS_bit f 10 7 (by omega), bS_bit f 10 8 (by omega), bS_bit f 10 9 (by omega)]
  simp only [cS, if_true, Nat.zero_add]
theorem bitsOf_loop {N : Nat} {f : Nat → Bool} {m : Mem} : ∀ rem g n, g + rem = 10 → rem < n → fX12_bitsOf_4 N n (zN (bS f 10)) (zN (cS f (fun _ => true) g)) (zN g) m = some (zN (cS f (fun _ => true) 10)) := by
  have hb := bS_lt f 10
  intro rem
  induction rem with
  | zero =>
    intro g n hg hn
    obtain ⟨n', rfl, _⟩ := fuel hn
    rw [fX12_bitsOf_4, if_pos (show (10 : Int32) ≤ zN g from zle' (a := 10) (by omega) (by omega) (by omega)), show g = 10 from by omega]
  | succ rem ih =>
    intro g n hg hn
    obtain ⟨n', rfl, hn⟩ := fuel hn
    rw [fX12_bitsOf_4, if_neg (show ¬ ((10 : Int32) ≤ zN g) from zle (a := 10) (by omega) (by omega) (by omega)), bit10 (by omega) (by omega), bS_bit f 10 g (by omega), zN_add, zN_s]
    have := ih (g + 1) n' (by omega) (by omega)
    rw [cS, if_pos rfl] at this
    exact this
def AskC (ok : Nat → Bool) (t : Nat → Nat → Bool) (C : Mem) : Prop := (C.1 83 2 = zN (bS ok 10)) ∧ (∀ g, g < 10 → ok g = true → ∃ w, w < 9223372036854775808 ∧ C.2.1 94 g = zJ w ∧ ∀ j, 1 ≤ j → j ≤ 60 → w / 2 ^ j % 2 = if t g j = true then 1 else 0)
theorem AskC.b {ok : Nat → Bool} {t : Nat → Nat → Bool} {C : Mem} (h : AskC ok t C) : C.1 83 2 = zN (bS ok 10) := h.1
theorem AskC.s {ok : Nat → Bool} {t : Nat → Nat → Bool} {C : Mem} (h : AskC ok t C) : ∀ g, g < 10 → ok g = true → ∃ w, w < 9223372036854775808 ∧ C.2.1 94 g = zJ w ∧ ∀ j, 1 ≤ j → j ≤ 60 → w / 2 ^ j % 2 = if t g j = true then 1 else 0 := h.2
theorem lgc : (lg_cmp (zJ 1) (1 : Int64) = 0) ∧ ¬ (lg_cmp (zJ 0) (1 : Int64) = 0) := ⟨lg_cmp_self _, by decide⟩
theorem q31 {N j : Nat} {x : Int32} {ok : Nat → Bool} {t : Nat → Nat → Bool} {C : Mem} {k76 : Int32 → Int32 → Int32 → Mem → Option Mem} (h : AskC ok t C) (hj : 1 ≤ j ∧ j ≤ 60) : ∀ rem g n, g + rem = 10 → rem < n → fX2_findQuestion_31 N k76 n x (zN j) (zN (cS ok (fun g => t g j) g)) (zN g) C = k76 x (zN j) (zN (cS ok (fun g => t g j) 10)) C := by
  have hb := bS_lt ok 10
  intro rem
  induction rem with
  | zero =>
    intro g n hg hn
    obtain ⟨n', rfl, _⟩ := fuel hn
    rw [fX2_findQuestion_31, if_pos (show (10 : Int32) ≤ zN g from zle' (a := 10) (by omega) (by omega) (by omega)), show g = 10 from by omega]
  | succ rem ih =>
    intro g n hg hn
    obtain ⟨n', rfl, hn⟩ := fuel hn
    have I := ih (g + 1) n' (by omega) (by omega)
    rw [cS] at I
    rw [fX2_findQuestion_31, if_neg (show ¬ ((10 : Int32) ≤ zN g) from zle (a := 10) (by omega) (by omega) (by omega)), h.b, bit10 (by omega) (by omega), bS_bit ok 10 g (by omega), zN_s]
    by_cases q : ok g = true
    · rw [if_pos q] at I ⊢
      obtain ⟨w, w1, w2, w3⟩ := h.s g (by omega) q
      rw [if_pos (show zN 1 = (1 : Int32) from rfl), g_in (by omega) (by omega), zN_cl (by omega), w2, bit60 w1 (by omega), w3 j hj.1 hj.2]
      by_cases y : t g j = true
      · rw [if_pos y] at I ⊢
        rw [if_pos lgc.1, zN_s]
        exact I
      · rw [if_neg y, Nat.add_zero] at I
        rw [if_neg y, if_neg lgc.2, zN_s]
        exact I
    · rw [if_neg q, Nat.add_zero] at I
      rw [if_neg q, if_neg (show ¬ (zN 0 = (1 : Int32)) from by decide), zN_s]
      exact I
theorem AskC.up {ok : Nat → Bool} {t : Nat → Nat → Bool} {C : Mem} (h : AskC ok t C) {k : Nat} {v : Int32} (hk : k ≠ 2) : AskC ok t (mI C 83 k v) := ⟨by rw [mI_n (by omega)]; exact h.b, h.s⟩
theorem q_loop {N : Nat} {x2 : Int32} {ok : Nat → Bool} {t : Nat → Nat → Bool} (hN : 1000 ≤ N) : ∀ rem j nC nR C R b w, j + rem = 61 → 1 ≤ j → rem < nC → rem < nR → AskC ok t C → C.1 83 3 = zN b → C.1 83 4 = zN w → 1 ≤ b → b ≤ 60 → w ≤ 10 → (∀ i, 1 ≤ i → i ≤ 60 → R.1 142 i = zN (cS ok (fun g => t g i) 10)) → ∃ C' r, fX2_findQuestion_20 N nC (zN (cS ok (fun _ => true) 10)) (zN j) C = some C' ∧ fX12_ask_151 N nR x2 (zN (bS ok 10)) (zN b) (zN w) (zN j) R = some (r, R) ∧ r = (if x2 = 0 then C'.1 83 3 else C'.1 83 4) ∧ (∀ c i, c ≠ 83 → C'.1 c i = C.1 c i) ∧ C'.2 = C.2 := by
  intro rem
  induction rem with
  | zero =>
    intro j nC nR C R b w hj hj1 h1 h2 hA e3 e4 hb hb2 hw hR
    obtain ⟨nC', rfl, _⟩ := fuel h1
    obtain ⟨nR', rfl, _⟩ := fuel h2
    rw [fX2_findQuestion_20, fX12_ask_151, if_pos (show (60 : Int32) < zN j from by rw [show (60 : Int32) = zN 60 from rfl, zN_lt (by omega) (by omega)]; omega), if_pos (show (60 : Int32) < zN j from by rw [show (60 : Int32) = zN 60 from rfl, zN_lt (by omega) (by omega)]; omega)]
    by_cases q : x2 = 0
    · rw [if_pos q]
      exact ⟨C, _, rfl, rfl, by rw [if_pos q, e3], fun _ _ _ => rfl, rfl⟩
    · rw [if_neg q]
      exact ⟨C, _, rfl, rfl, by rw [if_neg q, e4], fun _ _ _ => rfl, rfl⟩
  | succ rem ih =>
    intro j nC nR C R b w hj hj1 h1 h2 hA e3 e4 hb hb2 hw hR
    obtain ⟨nC', rfl, h1⟩ := fuel h1
    obtain ⟨nR', rfl, h2⟩ := fuel h2
    have L := cS_le ok (fun g => t g j) 10
    have L2 := cS_le ok (fun _ => true) 10
    have M : imax (zN (cS ok (fun g => t g j) 10)) (zN (cS ok (fun _ => true) 10) - zN (cS ok (fun g => t g j) 10)) = zN (max (cS ok (fun g => t g j) 10) (cS ok (fun _ => true) 10 - cS ok (fun g => t g j) 10)) := by
      rw [zN_sub L.1, imax_zN (by omega) (by omega)]
    rw [fX2_findQuestion_20, fX12_ask_151, if_neg (show ¬ ((60 : Int32) < zN j) from zlt (a := 60) (by omega) (by omega) (by omega)), if_neg (show ¬ ((60 : Int32) < zN j) from zlt (a := 60) (by omega) (by omega) (by omega)), show fX2_findQuestion_31 N (fX2_findQuestion_76 N (fun x1 x2 m => fX2_findQuestion_20 N nC' x1 x2 m)) N (zN (cS ok (fun _ => true) 10)) (zN j) (0 : Int32) (0 : Int32) C = _ from q31 hA ⟨hj1, by omega⟩ 10 0 N (by omega) (by omega)]
    unfold fX2_findQuestion_76 fX12_bitsOf
    rw [show fX12_bitsOf_4 N N (zN (bS ok 10)) (0 : Int32) (0 : Int32) R = _ from bitsOf_loop 10 0 N (by omega) (by omega), b_some, g_in (by omega) (by omega), g_in (by omega) (by omega), zN_cl (by omega), hR j hj1 (by omega), e4, M, if_neg (show ¬ (zN b = 0) from zne (c := 0) (by omega) (by omega) (by omega)), zN_s]
    by_cases q : w ≤ max (cS ok (fun g => t g j) 10) (cS ok (fun _ => true) 10 - cS ok (fun g => t g j) 10)
    · rw [if_pos (zle' (by omega) (by omega) q), if_neg (zlt (by omega) (by omega) q)]
      exact ih (j + 1) nC' nR' C R b w (by omega) (by omega) (by omega) (by omega) hA e3 e4 hb hb2 hw hR
    · rw [if_neg (zle (by omega) (by omega) (by omega)), if_pos (show zN (max (cS ok (fun g => t g j) 10) (cS ok (fun _ => true) 10 - cS ok (fun g => t g j) 10)) < zN w from by rw [zN_lt (by omega) (by omega)]; omega)]
      unfold fX12_ask_197
      obtain ⟨C', r, r1, r2, r3, r4, r5⟩ := ih (j + 1) nC' nR' (mI (mI C 83 4 (zN (max (cS ok (fun g => t g j) 10) (cS ok (fun _ => true) 10 - cS ok (fun g => t g j) 10)))) 83 3 (zN j)) R j (max (cS ok (fun g => t g j) 10) (cS ok (fun _ => true) 10 - cS ok (fun g => t g j) 10)) (by omega) (by omega) (by omega) (by omega) ((hA.up (by omega)).up (by omega)) (mI_s ⟨rfl, rfl⟩) (by rw [mI_n (by omega), mI_s ⟨rfl, rfl⟩]) hj1 (by omega) (by omega) hR
      rw [zN_s]
      refine ⟨C', r, r1, r2, r3, fun c i y => ?_, r5⟩
      rw [r4 c i y, mI_n (by omega), mI_n (by omega)]
theorem g161 {α : Type} {A : Option α} : (if (1 : Int32) < 0 ∨ 61 ≤ (1 : Int32).toNatClampNeg then none else A) = A := g_in (k := 1) (by omega) (by omega)
theorem ask_q {N : Nat} {x2 : Int32} {ok : Nat → Bool} {t : Nat → Nat → Bool} {C R : Mem} (hN : 1000 ≤ N) (hA : AskC ok t C) (hR : ∀ i, 1 ≤ i → i ≤ 60 → R.1 142 i = zN (cS ok (fun g => t g i) 10)) : ∃ C' r, fX2_findQuestion N C = some C' ∧ fX12_ask_142 N x2 (zN (bS ok 10)) R = some (r, R) ∧ r = (if x2 = 0 then C'.1 83 3 else C'.1 83 4) ∧ (∀ c i, c ≠ 83 → C'.1 c i = C.1 c i) ∧ C'.2 = C.2 := by
  have hb := bS_lt ok 10
  have L := cS_le ok (fun g => t g 1) 10
  have L2 := cS_le ok (fun _ => true) 10
  obtain ⟨N', rfl, hN'⟩ := fuel (show 999 < N by omega)
  unfold fX2_findQuestion fX12_ask_142
  rw [hA.b, bc_ok (by omega), b_some, popc_bS]
  have hA1 : AskC ok t (mI (mI C 83 3 (1 : Int32)) 83 4 (zN (cS ok (fun _ => true) 10))) := (hA.up (by omega)).up (by omega)
  have M : imax (zN (cS ok (fun g => t g 1) 10)) (zN (cS ok (fun _ => true) 10) - zN (cS ok (fun g => t g 1) 10)) = zN (max (cS ok (fun g => t g 1) 10) (cS ok (fun _ => true) 10 - cS ok (fun g => t g 1) 10)) := by
    rw [zN_sub L.1, imax_zN (by omega) (by omega)]
  rw [fX2_findQuestion_20, fX12_ask_151, if_neg (by decide), if_neg (by decide), show fX2_findQuestion_31 (N' + 1) (fX2_findQuestion_76 (N' + 1) (fun x1 x2 m => fX2_findQuestion_20 (N' + 1) N' x1 x2 m)) (N' + 1) (zN (cS ok (fun _ => true) 10)) (1 : Int32) (0 : Int32) (0 : Int32) (mI (mI C 83 3 (1 : Int32)) 83 4 (zN (cS ok (fun _ => true) 10))) = _ from q31 (j := 1) hA1 ⟨by omega, by omega⟩ 10 0 (N' + 1) (by omega) (by omega)]
  unfold fX2_findQuestion_76 fX12_bitsOf fX12_ask_197
  rw [show fX12_bitsOf_4 (N' + 1) (N' + 1) (zN (bS ok 10)) (0 : Int32) (0 : Int32) R = _ from bitsOf_loop 10 0 (N' + 1) (by omega) (by omega), g161, b_some, g161, if_pos rfl, show (1 : Int32).toNatClampNeg = 1 from rfl, hR 1 (by omega) (by omega), mI_s ⟨rfl, rfl⟩, M, show zN 1 + (1 : Int32) = zN 2 from rfl, show (1 : Int32) + (1 : Int32) = zN 2 from rfl]
  by_cases q : cS ok (fun _ => true) 10 ≤ max (cS ok (fun g => t g 1) 10) (cS ok (fun _ => true) 10 - cS ok (fun g => t g 1) 10)
  · rw [if_pos (zle' (by omega) (by omega) q)]
    have e : max (cS ok (fun g => t g 1) 10) (cS ok (fun _ => true) 10 - cS ok (fun g => t g 1) 10) = cS ok (fun _ => true) 10 := by omega
    rw [e]
    obtain ⟨C', r, r1, r2, r3, r4, r5⟩ := q_loop (N := N' + 1) (x2 := x2) (by omega) 59 2 N' N' _ R 1 (cS ok (fun _ => true) 10) (by omega) (by omega) (by omega) (by omega) hA1 (by rw [mI_n (by omega), mI_s ⟨rfl, rfl⟩]; rfl) (mI_s ⟨rfl, rfl⟩) (by omega) (by omega) (by omega) hR
    refine ⟨C', r, r1, r2, r3, fun c i y => ?_, r5⟩
    rw [r4 c i y, mI_n (by omega), mI_n (by omega)]
  · rw [if_neg (zle (by omega) (by omega) (by omega))]
    obtain ⟨C', r, r1, r2, r3, r4, r5⟩ := q_loop (N := N' + 1) (x2 := x2) (by omega) 59 2 N' N' (mI (mI (mI (mI C 83 3 (1 : Int32)) 83 4 (zN (cS ok (fun _ => true) 10))) 83 4 (zN (max (cS ok (fun g => t g 1) 10) (cS ok (fun _ => true) 10 - cS ok (fun g => t g 1) 10)))) 83 3 (zN 1)) R 1 (max (cS ok (fun g => t g 1) 10) (cS ok (fun _ => true) 10 - cS ok (fun g => t g 1) 10)) (by omega) (by omega) (by omega) (by omega) ((hA1.up (by omega)).up (by omega)) (mI_s ⟨rfl, rfl⟩) (by rw [mI_n (by omega), mI_s ⟨rfl, rfl⟩]) (by omega) (by omega) (by omega) hR
    refine ⟨C', r, r1, r2, r3, fun c i y => ?_, r5⟩
    rw [r4 c i y, mI_n (by omega), mI_n (by omega), mI_n (by omega), mI_n (by omega)]
theorem a33 {N : Nat} {x1 x2 x3 : Int32} {k54 : Int32 → Int32 → Int32 → Mem → Option (Int32 × Mem)} : ∀ rem j n m, j + rem = 61 → 1 ≤ j → rem < n → ∃ M, fX12_ask_33 N k54 n x1 x2 x3 (zN j) m = k54 x1 x2 x3 M ∧ ∀ c i, M.1 c i = if c = 142 ∧ j ≤ i ∧ i ≤ 60 then 0 else m.1 c i := by
  intro rem
  induction rem with
  | zero =>
    intro j n m hj h1 hn
    obtain ⟨n', rfl, _⟩ := fuel hn
    rw [fX12_ask_33, if_pos (show (60 : Int32) < zN j from by rw [show (60 : Int32) = zN 60 from rfl, zN_lt (by omega) (by omega)]; omega)]
    exact ⟨m, rfl, fun c i => by rw [if_neg (by omega)]⟩
  | succ rem ih =>
    intro j n m hj h1 hn
    obtain ⟨n', rfl, hn⟩ := fuel hn
    rw [fX12_ask_33, if_neg (show ¬ ((60 : Int32) < zN j) from zlt (a := 60) (by omega) (by omega) (by omega)), g_in (by omega) (by omega), zN_cl (by omega), zN_s]
    obtain ⟨M, a1, a2⟩ := ih (j + 1) n' (mI m 142 j 0) (by omega) (by omega) (by omega)
    refine ⟨M, a1, fun c i => ?_⟩
    rw [a2]
    by_cases p : c = 142 ∧ j ≤ i ∧ i ≤ 60
    · rw [if_pos p]
      by_cases w : i = j
      · rw [if_neg (by omega), mI_s ⟨p.1, w⟩]
      · rw [if_pos (by omega)]
    · rw [if_neg p, if_neg (by omega), mI_n (by omega)]
theorem a89 {Z : Nat → Nat} {N o k many g : Nat} {x2 x3 x4 : Int32} {C0 R0 : Mem} {k136 : Int32 → Int32 → Int32 → Int32 → Mem → Option (Int32 × Mem)} (h : Bas Z N o k many C0 R0) (hg : g < 10) (c0 : Nat → Nat) : ∀ rem i nR R, i + rem = 60 → rem < nR → RB R0 R → BathR Z 84 1 (cSt N o k g C0 i) R → (∀ j, 1 ≤ j → j ≤ 60 → R.1 142 j = zN (c0 j + (if j ≤ i then (if tG N k g R0 j = true then 1 else 0) else 0))) → ∃ R', fX12_ask_89 N k136 nR (zN k) x2 x3 x4 (zN (i + 1)) R = k136 (zN k) x2 x3 x4 R' ∧ RB R0 R' ∧ (∀ j, 1 ≤ j → j ≤ 60 → R'.1 142 j = zN (c0 j + (if tG N k g R0 j = true then 1 else 0))) := by
  have hN := h.hN
  have hz := h.od.zb
  have hk := h.hk
  intro rem
  induction rem with
  | zero =>
    intro i nR R hi hn hR hB hc
    obtain ⟨n', rfl, _⟩ := fuel hn
    rw [fX12_ask_89, if_pos (show (60 : Int32) < zN (i + 1) from by rw [show (60 : Int32) = zN 60 from rfl, zN_lt (by omega) (by omega)]; omega)]
    refine ⟨R, rfl, hR, fun j a b => ?_⟩
    rw [hc j a b, if_pos (by omega)]
  | succ rem ih =>
    intro i nR R hi hn hR hB hc
    obtain ⟨n', rfl, hn⟩ := fuel hn
    obtain ⟨R1, a1, a2, a3, _, a5⟩ := h.ref hR hg (show i < 1000 by omega) hB
    have e142 : ∀ j, R1.1 142 j = R.1 142 j := fun j => a2 142 j (by omega) (by omega) (by omega)
    have hR1 := hR.fr a2
    rw [fX12_ask_89, if_neg (show ¬ ((60 : Int32) < zN (i + 1)) from zlt (a := 60) (by omega) (by omega) (by omega)), a1, b_some, z6a, g_in (k := i + 1) (by omega) (by omega), g_in (k := 6 * 1 + k) (by omega) (by omega), zN_cl (n := i + 1) (by omega), zN_cl (n := 6 * 1 + k) (by omega)]
    unfold fX12_ask_128
    have next : ∀ y : Nat, y = (if tG N k g R0 (i + 1) = true then 1 else 0) → ∃ R', fX12_ask_89 N k136 n' (zN k) x2 x3 x4 (zN (i + 1 + 1)) (mI R1 142 (i + 1) (R1.1 142 (i + 1) + zN y)) = k136 (zN k) x2 x3 x4 R' ∧ RB R0 R' ∧ (∀ j, 1 ≤ j → j ≤ 60 → R'.1 142 j = zN (c0 j + (if tG N k g R0 j = true then 1 else 0))) := by
      intro y hy
      refine ih (i + 1) n' _ (by omega) (by omega) (fun c j q1 q2 q3 q4 => ?_) (a3.cong (fun _ _ _ _ => rfl) rfl (fun c _ _ => mI_n (by omega)) (fun c k _ _ _ => mI_n (by omega))) (fun j a b => ?_)
      · rw [mI_n (by omega)]
        exact hR1 c j q1 q2 q3 q4
      · by_cases w : j = i + 1
        · rw [w, mI_s ⟨rfl, rfl⟩, e142, hc _ (by omega) (by omega), if_neg (by omega), if_pos (by omega), ← hy, Nat.add_zero, zN_add]
        · rw [mI_n (by omega), e142, hc j a b]
          by_cases v : j ≤ i
          · rw [if_pos v, if_pos (show j ≤ i + 1 by omega)]
          · rw [if_neg v, if_neg (show ¬ (j ≤ i + 1) by omega)]
    rcases a5 with ⟨t1, t2⟩ | ⟨t1, t2⟩
    · rw [if_neg t2, g_in (k := i + 1) (by omega) (by omega), zN_cl (n := i + 1) (by omega), zN_s]
      exact next 1 (by rw [if_pos t1])
    · rw [if_pos t2, g_in (k := i + 1) (by omega) (by omega), zN_cl (n := i + 1) (by omega), zN_s]
      exact next 0 (by rw [if_neg (by rw [t1]; decide)])
theorem a57 {Z : Nat → Nat} {N o k many : Nat} {x2 : Int32} {C0 R0 : Mem} {ok : Nat → Bool} {k142 : Int32 → Int32 → Mem → Option (Int32 × Mem)} (h : Bas Z N o k many C0 R0) : ∀ rem g nR R, g + rem = 10 → rem < nR → RB R0 R → (∀ j, 1 ≤ j → j ≤ 60 → R.1 142 j = zN (cS ok (fun g => tG N k g R0 j) g)) → ∃ R', fX12_ask_57 N k142 nR (zN k) x2 (zN (bS ok 10)) (zN g) R = k142 x2 (zN (bS ok 10)) R' ∧ RB R0 R' ∧ (∀ j, 1 ≤ j → j ≤ 60 → R'.1 142 j = zN (cS ok (fun g => tG N k g R0 j) 10)) := by
  have hN := h.hN
  have hb := bS_lt ok 10
  intro rem
  induction rem with
  | zero =>
    intro g nR R hg hn hR hc
    obtain ⟨n', rfl, _⟩ := fuel hn
    rw [fX12_ask_57, if_pos (show (10 : Int32) ≤ zN g from zle' (a := 10) (by omega) (by omega) (by omega))]
    rw [show g = 10 from by omega] at hc
    exact ⟨R, rfl, hR, hc⟩
  | succ rem ih =>
    intro g nR R hg hn hR hc
    obtain ⟨n', rfl, hn⟩ := fuel hn
    rw [fX12_ask_57, if_neg (show ¬ ((10 : Int32) ≤ zN g) from zle (a := 10) (by omega) (by omega) (by omega)), bit10 (by omega) (by omega), bS_bit ok 10 g (by omega)]
    by_cases q : ok g = true
    · rw [if_pos q, if_neg (show ¬ (zN 1 = 0) from by decide)]
      obtain ⟨R1, s1, s2, s3⟩ := h.swith hR (show g < 10 by omega)
      rw [s1, b_some]
      obtain ⟨R2, r1, r2, r3⟩ := a89 (x2 := x2) (x3 := zN (bS ok 10)) (x4 := zN g) (k136 := fX12_ask_136 N (fun x1 x2 x3 x4 m => fX12_ask_57 N k142 n' x1 x2 x3 x4 m)) h (show g < 10 by omega) (fun j => cS ok (fun g => tG N k g R0 j) g) 60 0 N R1 (by omega) (by omega) (hR.fr s2) s3 (fun j a b => by rw [s2 142 j (by omega) (by omega) (by omega), hc j a b, if_neg (by omega), Nat.add_zero])
      rw [show fX12_ask_89 N (fX12_ask_136 N (fun x1 x2 x3 x4 m => fX12_ask_57 N k142 n' x1 x2 x3 x4 m)) N (zN k) x2 (zN (bS ok 10)) (zN g) (1 : Int32) R1 = _ from r1]
      unfold fX12_ask_136
      rw [zN_s]
      refine ih (g + 1) n' R2 (by omega) (by omega) r2 (fun j a b => ?_)
      rw [r3 j a b, cS, if_pos q]
    · rw [if_neg q, if_pos (show zN 0 = 0 from rfl)]
      unfold fX12_ask_136
      rw [zN_s]
      refine ih (g + 1) n' R (by omega) (by omega) hR (fun j a b => ?_)
      rw [hc j a b, cS, if_neg q, Nat.add_zero]
theorem op30 {N : Nat} (hN : 1000 ≤ N) : OP30 Inv N := by
  intro mC mR x1 x2 ⟨Z, o, nt, nu, nf, h⟩
  have h := h.th 0
  have hlo := h.lo
  have hz := h.od.zb
  unfold fX11_ask fX12_ask
  generalize mI mR 99 0 (0 : Int32) = R at h ⊢
  rw [h.sp.1, if_pos hlo]
  rcases kni_dec h.od x1 with ⟨k, k1, rfl, k3, k4⟩ | ⟨k3, k4⟩
  · rw [k3, k4, b_some, b_some, if_neg z10, if_neg z10]
    by_cases e1 : x2 < 0
    · rw [if_pos e1, if_pos e1]
      exact ⟨-1, _, _, rfl, rfl, h.i⟩
    · rw [if_neg e1, if_neg e1]
      by_cases e2 : x2 ≤ 1
      · rw [if_pos e2, if_pos e2]
        obtain ⟨many, C1, C2, R1, l, B, l1, l2, a1, a2, a3, a4, a5, a6, a7⟩ := borne_base hN h k1
        have OK : ∀ g, g < 10 → okG N k R1 60 g = okG N k R1 l g := by
          intro g hg
          unfold okG
          refine decide_eq_decide.mpr ⟨fun z j hj => z j (by omega), fun z j hj => ?_⟩
          by_cases y : j < l
          · exact z j y
          · obtain ⟨d1, d2, d3, d4, _, _⟩ := B.run hg (j + 1)
            obtain ⟨e, _, _, f3, f4⟩ := B.agr d2 d3 (i := j + 1) (by omega) d1 d4
            have ee : eG N k g R1 (j + 1) = e := by
              unfold eG
              rw [f3]
              rfl
            rw [ee]
            refine f4 (fun i hi w1 w2 w3 => ?_)
            have := l2 i (j + 1) hi w1 w2 w3 (by omega)
            omega
        obtain ⟨C', f1, f2, f3, f4⟩ := find_ok B (show 60 ≤ 60 by omega)
        obtain ⟨R', g1, g2⟩ := by_loop B l1 10 0 N R1 (by omega) (by omega) RB.rf
        rw [bS_cong 10 (f := okG N k R1 l) (f' := okG N k R1 60) (fun g hg => (OK g hg).symm)] at g1
        rw [a1, b_some, a2, h.sp.1, if_pos hlo, a3, b_some, show C2.2.2 = mC.2.2 from (a6 C2 CB.rf).2.2, h.sp.1, if_pos hlo, show fX2_find N o (zN k) (60 : Int32) C2 = _ from f1, b_some, a5, show fX12_borneBy_124 N N (zN k) (zN l) (0 : Int32) (0 : Int32) R1 = _ from g1, b_some]
        obtain ⟨R2, b1, b2⟩ := a33 (N := N) (x1 := zN k) (x2 := x2) (x3 := zN (bS (okG N k R1 60) 10)) (k54 := fX12_ask_54 N) 60 1 N R' (by omega) (by omega) (by omega)
        have hR2 : RB R1 R2 := fun c j q1 q2 q3 q4 => by rw [b2, if_neg (by omega)]; exact g2 c j q1 q2 q3 q4
        obtain ⟨R3, c1, c2, c3⟩ := a57 (N := N) (x2 := x2) (ok := okG N k R1 60) (k142 := fX12_ask_142 N) B 10 0 N R2 (by omega) (by omega) hR2 (fun j a b => by rw [b2, if_pos (by omega)]; rfl)
        have hA : AskC (okG N k R1 60) (fun g j => tG N k g R1 j) C' := by
          refine ⟨f2, fun g hg ok => ⟨sG N k g R1 60, ?_, f3 g hg ok, fun j a b => ?_⟩⟩
          · have := bS_lt (fun j => if j = 0 then false else tG N k g R1 j) 61
            exact Nat.lt_of_lt_of_le this (by decide)
          · unfold sG
            rw [bS_bit _ _ j (by omega), if_neg (show ¬ (j = 0) by omega)]
        obtain ⟨C3, r, r1, r2, r3, r4, r5⟩ := ask_q (x2 := x2) hN hA c3
        rw [r1, b_some, show fX12_ask_33 N (fX12_ask_54 N) N (zN k) x2 (zN (bS (okG N k R1 60) 10)) (1 : Int32) R' = _ from b1]
        unfold fX12_ask_54
        rw [show fX12_ask_57 N (fX12_ask_142 N) N (zN k) x2 (zN (bS (okG N k R1 60) 10)) (0 : Int32) R2 = _ from c1, r2]
        have T := h.t (a6 C3 ⟨fun c j q => by rw [r4 c j (by omega)]; exact f4.1 c j q, by rw [r5]; exact f4.2.1, fun c q => by rw [r5]; exact f4.2.2 c q⟩) (a7 R3 c2)
        by_cases y : x2 = 0
        · rw [if_pos y] at r3 ⊢
          exact ⟨_, _, _, rfl, by rw [r3], T.i⟩
        · rw [if_neg y] at r3 ⊢
          exact ⟨_, _, _, rfl, by rw [r3], T.i⟩
      · rw [if_neg e2, if_neg e2]
        exact ⟨-1, _, _, rfl, rfl, h.i⟩
  · rw [k3, k4, b_some, b_some, if_pos rfl, if_pos rfl]
    exact ⟨-1, _, _, rfl, rfl, h.i⟩
