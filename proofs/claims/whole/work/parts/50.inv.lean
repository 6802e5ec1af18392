/-! what holds between calls -/
def TapR (mC mR : Mem) (n : Nat) : Prop := (n ≤ 700) ∧ (mC.1 0 1 = zN n) ∧ (mR.1 99 2 = zN n) ∧ (∀ j, j < n → ∃ v, v < 256 ∧ mR.1 100 j = zN v ∧ mC.1 1 j &&& (255 : Int32) = zN v)
theorem TapR.nb {mC mR : Mem} {n : Nat} (h : TapR mC mR n) : n ≤ 700 := h.1
theorem TapR.tc {mC mR : Mem} {n : Nat} (h : TapR mC mR n) : mC.1 0 1 = zN n := h.2.1
theorem TapR.tr {mC mR : Mem} {n : Nat} (h : TapR mC mR n) : mR.1 99 2 = zN n := h.2.2.1
theorem TapR.by {mC mR : Mem} {n : Nat} (h : TapR mC mR n) : ∀ j, j < n → ∃ v, v < 256 ∧ mR.1 100 j = zN v ∧ mC.1 1 j &&& (255 : Int32) = zN v := h.2.2.2
def SavR (Z : Nat → Nat) (i : Nat) (mC mR : Mem) : Prop := (∀ k, k < 6 → mC.1 75 (24 * i + k) = mR.1 126 (6 * (3 + i) + k)) ∧ (∀ k, k < 6 → mC.1 75 (24 * i + 6 + k) = mR.1 127 (6 * (3 + i) + k)) ∧ (∀ k, k < 6 → mC.1 75 (24 * i + 18 + k) = mR.1 130 (6 * (3 + i) + k)) ∧ (∀ k, k < Z 1 → Bd (mR.1 126 (6 * (3 + i) + k)) 1 999) ∧ (∀ k, k < Z 1 → Bd (mR.1 127 (6 * (3 + i) + k)) 0 990) ∧ (∀ k, k < 6 → (mC.1 75 (24 * i + 12 + k) = -2 ∧ mR.1 129 (6 * (3 + i) + k) = -1) ∨ (k < Z 0 ∧ ∃ t, t < Z 1 ∧ mC.1 75 (24 * i + 12 + k) = zN t ∧ mR.1 129 (6 * (3 + i) + k) = zN t)) ∧ (∀ k k' t, k < 6 → k' < 6 → t < 6 → mR.1 129 (6 * (3 + i) + k) = zN t → mR.1 129 (6 * (3 + i) + k') = zN t → k = k') ∧ (∀ c k, k < 6 → (c = 128 ∨ c = 131 ∨ c = 132 ∨ c = 133) → mR.1 c (6 * (3 + i) + k) = mR.1 c k) ∧ (∀ c, 123 ≤ c → c ≤ 125 → mR.1 c (3 + i) = mR.1 c 0)
theorem SavR.e0 {Z : Nat → Nat} {i : Nat} {mC mR : Mem} (h : SavR Z i mC mR) : ∀ k, k < 6 → mC.1 75 (24 * i + k) = mR.1 126 (6 * (3 + i) + k) := h.1
theorem SavR.e1 {Z : Nat → Nat} {i : Nat} {mC mR : Mem} (h : SavR Z i mC mR) : ∀ k, k < 6 → mC.1 75 (24 * i + 6 + k) = mR.1 127 (6 * (3 + i) + k) := h.2.1
theorem SavR.e3 {Z : Nat → Nat} {i : Nat} {mC mR : Mem} (h : SavR Z i mC mR) : ∀ k, k < 6 → mC.1 75 (24 * i + 18 + k) = mR.1 130 (6 * (3 + i) + k) := h.2.2.1
theorem SavR.li {Z : Nat → Nat} {i : Nat} {mC mR : Mem} (h : SavR Z i mC mR) : ∀ k, k < Z 1 → Bd (mR.1 126 (6 * (3 + i) + k)) 1 999 := h.2.2.2.1
theorem SavR.he {Z : Nat → Nat} {i : Nat} {mC mR : Mem} (h : SavR Z i mC mR) : ∀ k, k < Z 1 → Bd (mR.1 127 (6 * (3 + i) + k)) 0 990 := h.2.2.2.2.1
theorem SavR.pl {Z : Nat → Nat} {i : Nat} {mC mR : Mem} (h : SavR Z i mC mR) : ∀ k, k < 6 → (mC.1 75 (24 * i + 12 + k) = -2 ∧ mR.1 129 (6 * (3 + i) + k) = -1) ∨ (k < Z 0 ∧ ∃ t, t < Z 1 ∧ mC.1 75 (24 * i + 12 + k) = zN t ∧ mR.1 129 (6 * (3 + i) + k) = zN t) := h.2.2.2.2.2.1
theorem SavR.ij {Z : Nat → Nat} {i : Nat} {mC mR : Mem} (h : SavR Z i mC mR) : ∀ k k' t, k < 6 → k' < 6 → t < 6 → mR.1 129 (6 * (3 + i) + k) = zN t → mR.1 129 (6 * (3 + i) + k') = zN t → k = k' := h.2.2.2.2.2.2.1
theorem SavR.ot {Z : Nat → Nat} {i : Nat} {mC mR : Mem} (h : SavR Z i mC mR) : ∀ c k, k < 6 → (c = 128 ∨ c = 131 ∨ c = 132 ∨ c = 133) → mR.1 c (6 * (3 + i) + k) = mR.1 c k := h.2.2.2.2.2.2.2.1
theorem SavR.mn {Z : Nat → Nat} {i : Nat} {mC mR : Mem} (h : SavR Z i mC mR) : ∀ c, 123 ≤ c → c ≤ 125 → mR.1 c (3 + i) = mR.1 c 0 := h.2.2.2.2.2.2.2.2
def PastR (Z : Nat → Nat) (u : Nat) (mC mR : Mem) : Prop := (u ≤ 20) ∧ (mC.1 74 1 = zN u) ∧ (mR.1 99 51 = zN u) ∧ (∀ i, i < u → SavR Z i mC mR)
theorem PastR.ub {Z : Nat → Nat} {u : Nat} {mC mR : Mem} (h : PastR Z u mC mR) : u ≤ 20 := h.1
theorem PastR.uc {Z : Nat → Nat} {u : Nat} {mC mR : Mem} (h : PastR Z u mC mR) : mC.1 74 1 = zN u := h.2.1
theorem PastR.ur {Z : Nat → Nat} {u : Nat} {mC mR : Mem} (h : PastR Z u mC mR) : mR.1 99 51 = zN u := h.2.2.1
theorem PastR.sv {Z : Nat → Nat} {u : Nat} {mC mR : Mem} (h : PastR Z u mC mR) : ∀ i, i < u → SavR Z i mC mR := h.2.2.2
def FctR (Z : Nat → Nat) (i : Nat) (mC mR : Mem) : Prop := mC.1 81 i = mR.1 140 i ∧ ((mR.1 140 i = -1 ∧ (∃ v, 1 ≤ v ∧ v ≤ 60 ∧ mC.1 77 i = zN v ∧ mR.1 136 i = zN v) ∧ (∃ k, k < Z 0 ∧ mC.1 78 i = zN k ∧ mR.1 137 i = zN k) ∧ mC.1 79 i = mR.1 138 i ∧ mC.1 80 i = mR.1 139 i ∧ (mR.1 139 i = 0 ∨ mR.1 139 i = 1)) ∨ ((∃ f, f < i ∧ mR.1 140 i = zN f) ∧ mC.1 77 i = 0))
def FacR (Z : Nat → Nat) (n : Nat) (mC mR : Mem) : Prop := (n ≤ 24) ∧ (mC.1 76 6 = zN n) ∧ (mR.1 99 58 = zN n) ∧ ((mC.1 76 7 = -1 ∧ mR.1 99 59 = -1) ∨ ∃ q, q ≤ n ∧ mC.1 76 7 = zN q ∧ mR.1 99 59 = zN q) ∧ (∀ i, i < n → FctR Z i mC mR)
theorem FacR.nb {Z : Nat → Nat} {n : Nat} {mC mR : Mem} (h : FacR Z n mC mR) : n ≤ 24 := h.1
theorem FacR.nc {Z : Nat → Nat} {n : Nat} {mC mR : Mem} (h : FacR Z n mC mR) : mC.1 76 6 = zN n := h.2.1
theorem FacR.nr {Z : Nat → Nat} {n : Nat} {mC mR : Mem} (h : FacR Z n mC mR) : mR.1 99 58 = zN n := h.2.2.1
theorem FacR.kb {Z : Nat → Nat} {n : Nat} {mC mR : Mem} (h : FacR Z n mC mR) : (mC.1 76 7 = -1 ∧ mR.1 99 59 = -1) ∨ ∃ q, q ≤ n ∧ mC.1 76 7 = zN q ∧ mR.1 99 59 = zN q := h.2.2.2.1
theorem FacR.fc {Z : Nat → Nat} {n : Nat} {mC mR : Mem} (h : FacR Z n mC mR) : ∀ i, i < n → FctR Z i mC mR := h.2.2.2.2
def mostT (i : Nat) : Nat := [6, 6, 12, 10, 8].getD i 0
def CstR (mC : Mem) : Prop := (∀ w, w < 21 → mC.1 6 w = wrdAt 106 w) ∧ (∀ o i, o = 7 ∨ o = 25 → i < 5 → mC.1 (o + 1 + 2 * i) 0 = zN (mostT i))
theorem CstR.wd {mC : Mem} (h : CstR mC) : ∀ w, w < 21 → mC.1 6 w = wrdAt 106 w := h.1
theorem CstR.ms {mC : Mem} (h : CstR mC) : ∀ o i, o = 7 ∨ o = 25 → i < 5 → mC.1 (o + 1 + 2 * i) 0 = zN (mostT i) := h.2
def InvZ (Z : Nat → Nat) (o nt nu nf : Nat) (mC mR : Mem) : Prop := (OrdR Z o mC mR) ∧ (mC.2.2 3 = o ∧ mC.2.2 4 = 32 - o) ∧ (BathR Z 43 0 mC mR) ∧ ((mC.1 0 8 = 0 ∧ mR.1 99 50 = 0) ∨ (mC.1 0 8 = 1 ∧ mR.1 99 50 = 1 ∧ BathR Z 63 2 mC mR)) ∧ (TapR mC mR nt) ∧ (mC.1 2 7 = mR.1 99 32 ∧ mC.1 2 8 = mR.1 99 33) ∧ (mR.1 99 52 = 0 ∧ mR.1 99 53 = -1) ∧ (PastR Z nu mC mR) ∧ (FacR Z nf mC mR) ∧ (CstR mC)
theorem InvZ.od {Z : Nat → Nat} {o nt nu nf : Nat} {mC mR : Mem} (h : InvZ Z o nt nu nf mC mR) : OrdR Z o mC mR := h.1
theorem InvZ.sp {Z : Nat → Nat} {o nt nu nf : Nat} {mC mR : Mem} (h : InvZ Z o nt nu nf mC mR) : mC.2.2 3 = o ∧ mC.2.2 4 = 32 - o := h.2.1
theorem InvZ.nw {Z : Nat → Nat} {o nt nu nf : Nat} {mC mR : Mem} (h : InvZ Z o nt nu nf mC mR) : BathR Z 43 0 mC mR := h.2.2.1
theorem InvZ.im {Z : Nat → Nat} {o nt nu nf : Nat} {mC mR : Mem} (h : InvZ Z o nt nu nf mC mR) : (mC.1 0 8 = 0 ∧ mR.1 99 50 = 0) ∨ (mC.1 0 8 = 1 ∧ mR.1 99 50 = 1 ∧ BathR Z 63 2 mC mR) := h.2.2.2.1
theorem InvZ.tp {Z : Nat → Nat} {o nt nu nf : Nat} {mC mR : Mem} (h : InvZ Z o nt nu nf mC mR) : TapR mC mR nt := h.2.2.2.2.1
theorem InvZ.ft {Z : Nat → Nat} {o nt nu nf : Nat} {mC mR : Mem} (h : InvZ Z o nt nu nf mC mR) : mC.1 2 7 = mR.1 99 32 ∧ mC.1 2 8 = mR.1 99 33 := h.2.2.2.2.2.1
theorem InvZ.ty {Z : Nat → Nat} {o nt nu nf : Nat} {mC mR : Mem} (h : InvZ Z o nt nu nf mC mR) : mR.1 99 52 = 0 ∧ mR.1 99 53 = -1 := h.2.2.2.2.2.2.1
theorem InvZ.ps {Z : Nat → Nat} {o nt nu nf : Nat} {mC mR : Mem} (h : InvZ Z o nt nu nf mC mR) : PastR Z nu mC mR := h.2.2.2.2.2.2.2.1
theorem InvZ.fa {Z : Nat → Nat} {o nt nu nf : Nat} {mC mR : Mem} (h : InvZ Z o nt nu nf mC mR) : FacR Z nf mC mR := h.2.2.2.2.2.2.2.2.1
theorem InvZ.cs {Z : Nat → Nat} {o nt nu nf : Nat} {mC mR : Mem} (h : InvZ Z o nt nu nf mC mR) : CstR mC := h.2.2.2.2.2.2.2.2.2
def Inv (mC mR : Mem) : Prop := ∃ Z o nt nu nf, InvZ Z o nt nu nf mC mR
theorem TapR.cong {n : Nat} {mC mR mC' mR' : Mem} (h : TapR mC mR n) (h1 : ∀ c k, c ≤ 1 → mC'.1 c k = mC.1 c k) (h2 : mR'.1 99 2 = mR.1 99 2) (h3 : ∀ k, mR'.1 100 k = mR.1 100 k) : TapR mC' mR' n := by
  refine ⟨h.nb, ?_, ?_, fun j hj => ?_⟩
  · rw [h1 _ _ (by omega)]
    exact h.tc
  · rw [h2]
    exact h.tr
  · rw [h1 _ _ (by omega), h3]
    exact h.by j hj
theorem SavR.cong {Z : Nat → Nat} {i : Nat} {mC mR mC' mR' : Mem} (hz : Z 0 ≤ 6 ∧ Z 1 ≤ 6) (h : SavR Z i mC mR) (h1 : ∀ k, k < 24 → mC'.1 75 (24 * i + k) = mC.1 75 (24 * i + k)) (h2 : ∀ c k, k < 6 → 126 ≤ c → c ≤ 133 → mR'.1 c (6 * (3 + i) + k) = mR.1 c (6 * (3 + i) + k)) (h3 : ∀ c k, k < 6 → (c = 128 ∨ c = 131 ∨ c = 132 ∨ c = 133) → mR'.1 c k = mR.1 c k) (h4 : ∀ c, 123 ≤ c → c ≤ 125 → mR'.1 c 0 = mR.1 c 0 ∧ mR'.1 c (3 + i) = mR.1 c (3 + i)) : SavR Z i mC' mR' := by
  have g1 : ∀ d k, d + k < 24 → mC'.1 75 (24 * i + d + k) = mC.1 75 (24 * i + d + k) := fun d k q => by rw [Nat.add_assoc]; exact h1 (d + k) q
  refine ⟨fun k hk => ?_, fun k hk => ?_, fun k hk => ?_, fun k hk => ?_, fun k hk => ?_, fun k hk => ?_, fun k k' t hk hk' ht => ?_, fun c k hk hc => ?_, fun c a b => ?_⟩
  · rw [h1 k (by omega), h2 _ _ hk (by omega) (by omega)]
    exact h.e0 k hk
  · rw [g1 6 k (by omega), h2 _ _ hk (by omega) (by omega)]
    exact h.e1 k hk
  · rw [g1 18 k (by omega), h2 _ _ hk (by omega) (by omega)]
    exact h.e3 k hk
  · rw [h2 _ _ (by omega) (by omega) (by omega)]
    exact h.li k hk
  · rw [h2 _ _ (by omega) (by omega) (by omega)]
    exact h.he k hk
  · rw [g1 12 k (by omega), h2 _ _ hk (by omega) (by omega)]
    exact h.pl k hk
  · rw [h2 _ _ hk (by omega) (by omega), h2 _ _ hk' (by omega) (by omega)]
    exact h.ij k k' t hk hk' ht
  · rw [h2 _ _ hk (by omega) (by omega), h3 _ _ hk hc]
    exact h.ot c k hk hc
  · rw [(h4 c a b).1, (h4 c a b).2]
    exact h.mn c a b
theorem PastR.cong {Z : Nat → Nat} {u : Nat} {mC mR mC' mR' : Mem} (hz : Z 0 ≤ 6 ∧ Z 1 ≤ 6) (h : PastR Z u mC mR) (h0 : mC'.1 74 1 = mC.1 74 1) (h1 : ∀ k, mC'.1 75 k = mC.1 75 k) (h2 : ∀ c k, 18 ≤ k → 126 ≤ c → c ≤ 133 → mR'.1 c k = mR.1 c k) (h3 : ∀ c k, k < 6 → (c = 128 ∨ c = 131 ∨ c = 132 ∨ c = 133) → mR'.1 c k = mR.1 c k) (h4 : ∀ c k, 123 ≤ c → c ≤ 125 → (k = 0 ∨ 3 ≤ k) → mR'.1 c k = mR.1 c k) (h5 : mR'.1 99 51 = mR.1 99 51) : PastR Z u mC' mR' := by
  refine ⟨h.ub, h0.trans h.uc, h5.trans h.ur, fun i hi => (h.sv i hi).cong hz (fun k _ => h1 _) (fun c k _ a b => h2 c _ (by omega) a b) h3 (fun c a b => ⟨h4 c 0 a b (Or.inl rfl), h4 c _ a b (Or.inr (by omega))⟩)⟩
theorem FacR.cong {Z : Nat → Nat} {n : Nat} {mC mR mC' mR' : Mem} (h : FacR Z n mC mR) (h1 : ∀ c k, 76 ≤ c → c ≤ 81 → mC'.1 c k = mC.1 c k) (h2 : mR'.1 99 58 = mR.1 99 58) (h3 : mR'.1 99 59 = mR.1 99 59) (h4 : ∀ c k, 136 ≤ c → c ≤ 140 → mR'.1 c k = mR.1 c k) : FacR Z n mC' mR' := by
  refine ⟨h.nb, ?_, ?_, ?_, fun i hi => ?_⟩
  · rw [h1 _ _ (by omega) (by omega)]
    exact h.nc
  · rw [h2]
    exact h.nr
  · rw [h1 _ _ (by omega) (by omega), h3]
    exact h.kb
  · have q := h.fc i hi
    unfold FctR at q ⊢
    rw [h1 81 _ (by omega) (by omega), h1 77 _ (by omega) (by omega), h1 78 _ (by omega) (by omega), h1 79 _ (by omega) (by omega), h1 80 _ (by omega) (by omega), h4 140 _ (by omega) (by omega), h4 139 _ (by omega) (by omega), h4 138 _ (by omega) (by omega), h4 137 _ (by omega) (by omega), h4 136 _ (by omega) (by omega)]
    exact q
theorem CstR.cong {mC mC' : Mem} (h : CstR mC) (h1 : ∀ w, mC'.1 6 w = mC.1 6 w) (h2 : ∀ o i, o = 7 ∨ o = 25 → i < 5 → mC'.1 (o + 1 + 2 * i) 0 = mC.1 (o + 1 + 2 * i) 0) : CstR mC' := ⟨fun w hw => (h1 w).trans (h.wd w hw), fun o i ho hi => (h2 o i ho hi).trans (h.ms o i ho hi)⟩
/-- what a call that only looks may touch -/
def KC (c : Nat) : Prop := c ≤ 52 ∨ (63 ≤ c ∧ c ≤ 72) ∨ (74 ≤ c ∧ c ≤ 81)
def KR (c k : Nat) : Prop := ¬ (c = 99 ∧ (k = 0 ∨ k = 38 ∨ k = 56 ∨ k = 57)) ∧ ¬ (123 ≤ c ∧ c ≤ 125 ∧ k = 1) ∧ ¬ (126 ≤ c ∧ c ≤ 133 ∧ 6 ≤ k ∧ k < 12) ∧ c ≠ 134 ∧ c ≠ 135 ∧ c ≠ 141 ∧ c ≠ 142
theorem InvZ.cong {Z : Nat → Nat} {o nt nu nf : Nat} {mC mR mC' mR' : Mem} (h : InvZ Z o nt nu nf mC mR) (hC : ∀ c k, KC c → mC'.1 c k = mC.1 c k) (hJ : ∀ c, c = 43 ∨ c = 63 → mC'.2.1 c 11 = mC.2.1 c 11) (hr : mC'.2.2 = mC.2.2) (hR : ∀ c k, KR c k → mR'.1 c k = mR.1 c k) : InvZ Z o nt nu nf mC' mR' := by
  have hz := h.nw.zz
  unfold KC at hC
  unfold KR at hR
  refine ⟨h.od.cong (fun c k q => hC c k (by omega)) (fun c k a b => hR c k (by omega)), ?_, h.nw.cong (fun c k a b => hC c k (by omega)) (hJ _ (Or.inl rfl)) (fun c a b => hR c _ (by omega)) (fun c k a b e => hR c _ (by omega)), ?_, h.tp.cong (fun c k q => hC c k (by omega)) (hR _ _ (by omega)) (fun k => hR _ _ (by omega)), ?_, ?_, h.ps.cong hz (hC _ _ (by omega)) (fun k => hC _ _ (by omega)) (fun c k a b e => hR _ _ (by omega)) (fun c k a b => hR _ _ (by omega)) (fun c k a b e => hR _ _ (by omega)) (hR _ _ (by omega)), h.fa.cong (fun c k a b => hC _ _ (by omega)) (hR _ _ (by omega)) (hR _ _ (by omega)) (fun c k a b => hR _ _ (by omega)), h.cs.cong (fun w => hC _ _ (by omega)) (fun o i a b => hC _ _ (by omega))⟩
  · rw [hr]
    exact h.sp
  · rw [hC 0 8 (by omega), hR 99 50 (by omega)]
    rcases h.im with q | ⟨q1, q2, q3⟩
    · exact Or.inl q
    · exact Or.inr ⟨q1, q2, q3.cong (fun c k a b => hC c k (by omega)) (hJ _ (Or.inr rfl)) (fun c a b => hR c _ (by omega)) (fun c k a b e => hR c _ (by omega))⟩
  · rw [hC 2 7 (by omega), hC 2 8 (by omega), hR 99 32 (by omega), hR 99 33 (by omega)]
    exact h.ft
  · rw [hR 99 52 (by omega), hR 99 53 (by omega)]
    exact h.ty
/-- thrown = 0 -/
theorem InvZ.th {Z : Nat → Nat} {o nt nu nf : Nat} {mC mR : Mem} (h : InvZ Z o nt nu nf mC mR) (v : Int32) : InvZ Z o nt nu nf mC (mI mR 99 0 v) := h.cong (fun _ _ _ => rfl) (fun _ _ => rfl) rfl (fun c k q => by unfold KR at q; exact mI_n (by omega))
theorem op2 {N : Nat} : OP2 Inv N := by
  intro mC mR x1 ⟨Z, o, nt, nu, nf, h⟩
  have h0 := h.th 0
  have q := h0.ft
  unfold fX11_fault fX12_fault
  by_cases e0 : x1 = 0
  · simp only [e0, if_true]
    exact ⟨_, _, rfl, by rw [← q.1], Z, o, nt, nu, nf, h0⟩
  · by_cases e1 : x1 = 1
    · rw [if_neg e0, if_neg e0, if_pos e1, if_pos e1]
      exact ⟨_, _, rfl, by rw [← q.2], Z, o, nt, nu, nf, h0⟩
    · rw [if_neg e0, if_neg e0, if_neg e1, if_neg e1]
      exact ⟨_, _, rfl, rfl, Z, o, nt, nu, nf, h0⟩
