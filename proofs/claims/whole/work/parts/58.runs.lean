/-! minutes that go by, or would -/
theorem rng {x : Int32} {hi : Nat} (hh : hi < 2147483648) : x < 0 ∨ (¬ x < 0 ∧ zN hi < x ∧ ¬ x ≤ zN hi) ∨ ∃ n, n ≤ hi ∧ x = zN n ∧ ¬ x < 0 ∧ ¬ zN hi < x ∧ x ≤ zN hi := by
  rcases zN_or x with q | ⟨n, hn, rfl⟩
  · exact Or.inl q
  · by_cases q : n ≤ hi
    · exact Or.inr (Or.inr ⟨n, q, rfl, znn hn, zlt hh hn q, zle' hn hh q⟩)
    · refine Or.inr (Or.inl ⟨znn hn, ?_, zle hn hh (by omega)⟩)
      rw [zN_lt hh hn]
      omega
theorem run_rel {α : Type} {Z : Nat → Nat} {N o b s cnt : Nat} {yn : Int32} {F : Nat → Int32 → Mem → Option α} {K : Mem → Option α} (hN : 100 ≤ N) (hc : cnt ≤ 1000) (hF0 : ∀ n x m, zN cnt ≤ x → F (n + 1) x m = K m) (hF1 : ∀ n x m, ¬ (zN cnt ≤ x) → F (n + 1) x m = (fX12_passes N (zN s) yn m).bind (fun q => F n (x + (1 : Int32)) q)) : ∀ rem k nC nR mC mR, k + rem = cnt → rem < nC → rem < nR → OrdR Z o mC mR → BathR Z b s mC mR → MdR mC mR yn → ∃ mC' mR', fX5_passMany_3 N nC o b (zN cnt) (zN k) mC = some mC' ∧ F nR (zN k) mR = K mR' ∧ OrdR Z o mC' mR' ∧ BathR Z b s mC' mR' ∧ MdR mC' mR' yn ∧ FC o b mC mC' ∧ FR s mR mR' := by
  intro rem
  induction rem with
  | zero =>
    intro k nC nR mC mR hk h1 h2 hO hB hM
    obtain ⟨nC', rfl, _⟩ := fuel h1
    obtain ⟨nR', rfl, _⟩ := fuel h2
    rw [fX5_passMany_3, if_pos (zle' (by omega) (by omega) (by omega)), hF0 _ _ _ (zle' (by omega) (by omega) (by omega))]
    exact ⟨mC, mR, rfl, rfl, hO, hB, hM, FC.rf, FR.rf⟩
  | succ rem ih =>
    intro k nC nR mC mR hk h1 h2 hO hB hM
    obtain ⟨nC', rfl, h1⟩ := fuel h1
    obtain ⟨nR', rfl, h2⟩ := fuel h2
    obtain ⟨m1, m2, p1, p2, p3, p4, p5⟩ := pass_rel hN hO hB hM
    have hb : 43 ≤ b := by have := hB.hb; omega
    rw [fX5_passMany_3, if_neg (zle (by omega) (by omega) (by omega)), hF1 _ _ _ (zle (by omega) (by omega) (by omega)), p1, p2, b_some, b_some, zN_s]
    obtain ⟨M, M', q1, q2, q3, q4, q5, q6, q7⟩ := ih (k + 1) nC' nR' m1 m2 (by omega) (by omega) (by omega) (hO.fr hb p4 p5) p3 (hM.fr hB.hb p4 p5)
    exact ⟨M, M', q1, q2, q3, q4, q5, p4.tr q6, p5.tr q7⟩
def TC (m m' : Mem) : Prop := (∀ c k, KC c → m'.1 c k = m.1 c k) ∧ (∀ c, c = 43 ∨ c = 63 → m'.2.1 c 11 = m.2.1 c 11) ∧ m'.2.2 = m.2.2
def TR (m m' : Mem) : Prop := ∀ c k, KR c k → m'.1 c k = m.1 c k
theorem TC.tr {m m' m'' : Mem} (h : TC m m') (h' : TC m' m'') : TC m m'' := ⟨fun c k q => (h'.1 c k q).trans (h.1 c k q), fun c q => (h'.2.1 c q).trans (h.2.1 c q), h'.2.2.trans h.2.2⟩
theorem TR.tr {m m' m'' : Mem} (h : TR m m') (h' : TR m' m'') : TR m m'' := fun c k q => (h' c k q).trans (h c k q)
theorem FC.t {o : Nat} {m m' : Mem} (ho : o ≤ 25) (h : FC o 53 m m') : TC m m' := ⟨fun c k q => h.1 c k (by unfold KC at q; omega), fun c q => h.2.1 c 11 (by omega) (by omega) (by omega), h.2.2⟩
theorem FR.t {m m' : Mem} (h : FR 1 m m') : TR m m' := fun c k q => h c k (by unfold KR at q; omega) (by unfold KR at q; omega) (by unfold KR at q; omega)
theorem InvZ.t {Z : Nat → Nat} {o nt nu nf : Nat} {mC mR mC' mR' : Mem} (h : InvZ Z o nt nu nf mC mR) (hC : TC mC mC') (hR : TR mR mR') : InvZ Z o nt nu nf mC' mR' := h.cong hC.1 hC.2.1 hC.2.2 hR
theorem MdR.drawn {m mR : Mem} (h1 : mR.1 99 52 = 0) : MdR (mI (mI (mI (mI m 73 0 (0 : Int32)) 73 1 (-1 : Int32)) 73 2 (1 : Int32)) 73 3 (1 : Int32)) mR 1 := by
  refine ⟨?_, ?_, ?_, ?_⟩
  · rw [mI_n (by omega), mI_s ⟨rfl, rfl⟩, h1]
    decide
  · rw [mI_s ⟨rfl, rfl⟩, h1]
    decide
  · rw [mI_n (by omega), mI_n (by omega), mI_s ⟨rfl, rfl⟩, h1]
    exact Or.inr ⟨by decide, rfl⟩
  · rw [mI_n (by omega), mI_n (by omega), mI_n (by omega), mI_s ⟨rfl, rfl⟩, h1]
    exact Or.inl ⟨rfl, rfl, by decide⟩
/-- as it goes -/
theorem asit_rel {o : Nat} {m mR : Mem} (ho : o ≤ 25) (h1 : mR.1 99 52 = 0) (h2 : m.1 o 6 = mR.1 101 5) : ∃ M, fX5_asItGoes o m = some M ∧ MdR M mR 0 ∧ (∀ c k, c ≠ 73 → M.1 c k = m.1 c k) ∧ M.2 = m.2 ∧ M.1 73 1 = -1 ∧ M.1 73 2 = 1 ∧ M.1 73 3 = 1 := by
  unfold fX5_asItGoes fX5_drawn fX5_asItGoes_19
  rw [b_some, mI_n (by omega), mI_n (by omega), mI_n (by omega), mI_n (by omega), h2]
  have H : ∀ y : Int32, ((y = 2 ∧ mR.1 101 5 < 50) ∨ (y = 1 ∧ ¬ (mR.1 101 5 < 50))) → MdR (mI (mI (mI (mI (mI m 73 0 (0 : Int32)) 73 1 (-1 : Int32)) 73 2 (1 : Int32)) 73 3 (1 : Int32)) 73 0 y) mR 0 := by
    intro y hy
    refine ⟨?_, ?_, ?_, ?_⟩
    · rw [mI_n (by omega), mI_n (by omega), mI_s ⟨rfl, rfl⟩, h1]
      decide
    · rw [mI_n (by omega), mI_s ⟨rfl, rfl⟩, h1]
      decide
    · rw [mI_n (by omega), mI_n (by omega), mI_n (by omega), mI_s ⟨rfl, rfl⟩, h1]
      exact Or.inr ⟨by decide, rfl⟩
    · rw [mI_s ⟨rfl, rfl⟩, h1]
      rcases hy with ⟨rfl, hy⟩ | ⟨rfl, hy⟩
      · exact Or.inr (Or.inr ⟨rfl, Or.inr ⟨by decide, by decide, rfl, hy⟩⟩)
      · exact Or.inr (Or.inl ⟨rfl, Or.inr ⟨by decide, by decide, rfl, hy⟩⟩)
  by_cases q : mR.1 101 5 < 50
  · rw [if_pos q]
    refine ⟨_, rfl, H 2 (Or.inl ⟨rfl, q⟩), fun c k e => ?_, rfl, ?_, ?_, ?_⟩
    · rw [mI_n (by omega), mI_n (by omega), mI_n (by omega), mI_n (by omega), mI_n (by omega)]
    · rw [mI_n (by omega), mI_n (by omega), mI_n (by omega), mI_s ⟨rfl, rfl⟩]
    · rw [mI_n (by omega), mI_n (by omega), mI_s ⟨rfl, rfl⟩]
    · rw [mI_n (by omega), mI_s ⟨rfl, rfl⟩]
  · rw [if_neg q]
    refine ⟨_, rfl, H 1 (Or.inr ⟨rfl, q⟩), fun c k e => ?_, rfl, ?_, ?_, ?_⟩
    · rw [mI_n (by omega), mI_n (by omega), mI_n (by omega), mI_n (by omega), mI_n (by omega)]
    · rw [mI_n (by omega), mI_n (by omega), mI_n (by omega), mI_s ⟨rfl, rfl⟩]
    · rw [mI_n (by omega), mI_n (by omega), mI_s ⟨rfl, rfl⟩]
    · rw [mI_n (by omega), mI_s ⟨rfl, rfl⟩]
theorem try0 {Z : Nat → Nat} {N o nt nu nf : Nat} {mC mR : Mem} (hN : 100 ≤ N) (h : InvZ Z o nt nu nf mC mR) : ∃ M M', fX0_become 53 43 mC = some M ∧ fX12_copies N (1 : Int32) (0 : Int32) mR = some M' ∧ BathR Z 53 1 M M' ∧ TC mC M ∧ TR mR M' ∧ (∀ c k, c < 53 ∨ 62 < c → M.1 c k = mC.1 c k) ∧ (∀ k, M'.1 99 k = mR.1 99 k) := by
  obtain ⟨M, a1, a2⟩ := become_ok (b := 53) (b' := 43) (m := mC) (by omega)
  obtain ⟨M', b1, b2⟩ := copies_ok (N := N) (a := 1) (b := 0) (m := mR) hN (by omega) (by omega) (by omega)
  refine ⟨M, M', a1, b1, h.nw.move (by omega) (by omega) a2 b2, ⟨fun c k q => a2.n c k (by unfold KC at q; omega), fun c q => a2.nj _ _ (by omega), a2.o⟩, fun c k q => b2.n (by unfold KR at q; omega) (by unfold KR at q; omega), fun c k q => a2.n c k (by omega), fun k => b2.n (by omega) (by omega)⟩
theorem try_rel {Z : Nat → Nat} {N o nt nu nf : Nat} {mC mR : Mem} (hN : 100 ≤ N) (h : InvZ Z o nt nu nf mC mR) : ∃ M M', fX11_tryAsItGoes mC = some M ∧ fX12_copies N (1 : Int32) (0 : Int32) mR = some M' ∧ OrdR Z o M M' ∧ BathR Z 53 1 M M' ∧ MdR M M' 0 ∧ TC mC M ∧ TR mR M' ∧ M.1 73 1 = -1 ∧ M.1 73 2 = 1 ∧ M.1 73 3 = 1 := by
  have ho := h.od.o25
  obtain ⟨M0, M', a1, b1, B, T1, T2, F1, F2⟩ := try0 hN h
  have I := h.t T1 T2
  obtain ⟨M, c1, c2, c3, c4, c5, c6, c7⟩ := asit_rel (o := o) (m := M0) (mR := M') (by omega) I.ty.1 I.od.fl.1
  refine ⟨M, M', ?_, b1, I.od.cong (fun c k q => c3 c k (by omega)) (fun _ _ _ _ => rfl), B.cong (fun c k _ _ => c3 c k (by omega)) (by rw [c4]) (fun _ _ _ => rfl) (fun _ _ _ _ _ => rfl), c2, T1.tr ⟨fun c k q => c3 c k (by unfold KC at q; omega), fun c _ => by rw [c4], by rw [c4]⟩, T2, c5, c6, c7⟩
  unfold fX11_tryAsItGoes
  rw [a1, b_some, I.sp.1, if_pos I.lo, c1, b_some]
theorem op12 {N : Nat} (hN : 1000 ≤ N) : OP12 Inv N := by
  intro mC mR x1 ⟨Z, o, nt, nu, nf, h⟩
  have h := h.th 0
  have hz := h.od.zb
  have ho := h.od.o25
  unfold fX11_go fX12_go
  generalize mI mR 99 0 (0 : Int32) = R at h ⊢
  rcases rng (x := x1) (hi := 200) (by omega) with q | ⟨q1, q2, _⟩ | ⟨n, n1, rfl, q1, q2, _⟩
  · rw [if_pos q, if_pos q]
    exact ⟨-1, _, _, rfl, rfl, h.i⟩
  · rw [if_neg q1, if_neg q1, if_pos (show (200 : Int32) < x1 from q2), if_pos (show (200 : Int32) < x1 from q2)]
    exact ⟨-1, _, _, rfl, rfl, h.i⟩
  · rw [if_neg q1, if_neg q1, if_neg (show ¬ ((200 : Int32) < zN n) from q2), if_neg (show ¬ ((200 : Int32) < zN n) from q2), show mC.1 43 9 = R.1 123 0 from h.nw.mi]
    by_cases q : R.1 123 0 + zN n ≤ 9800
    · rw [if_pos q, if_pos q]
      unfold fX5_drawn fX5_passMany
      rw [b_some]
      have RUN : ∀ m : Mem, (∀ c k, ¬ (c = 99 ∧ k = 51) → m.1 c k = R.1 c k) → ∃ M M', fX5_passMany_3 N N o 43 (zN n) (0 : Int32) (mI (mI (mI (mI mC 73 0 (0 : Int32)) 73 1 (-1 : Int32)) 73 2 (1 : Int32)) 73 3 (1 : Int32)) = some M ∧ fX12_go_43 N N (zN n) (0 : Int32) m = some (M'.1 123 0, M') ∧ BathR Z 43 0 M M' ∧ FC o 43 (mI (mI (mI (mI mC 73 0 (0 : Int32)) 73 1 (-1 : Int32)) 73 2 (1 : Int32)) 73 3 (1 : Int32)) M ∧ FR 0 m M' := by
        intro m hm
        have O1 : OrdR Z o (mI (mI (mI (mI mC 73 0 (0 : Int32)) 73 1 (-1 : Int32)) 73 2 (1 : Int32)) 73 3 (1 : Int32)) m := h.od.cong (fun c k q => by rw [mI_n (by omega), mI_n (by omega), mI_n (by omega), mI_n (by omega)]) (fun c k _ _ => hm c k (by omega))
        have B1 : BathR Z 43 0 (mI (mI (mI (mI mC 73 0 (0 : Int32)) 73 1 (-1 : Int32)) 73 2 (1 : Int32)) 73 3 (1 : Int32)) m := h.nw.cong (fun c k _ _ => by rw [mI_n (by omega), mI_n (by omega), mI_n (by omega), mI_n (by omega)]) rfl (fun c _ _ => hm c _ (by omega)) (fun c k _ _ _ => hm c _ (by omega))
        obtain ⟨M, M', r1, r2, r3, r4, r5, r6, r7⟩ := run_rel (F := fun f x q => fX12_go_43 N f (zN n) x q) (K := fun q => some (q.1 123 0, q)) (N := N) (s := 0) (cnt := n) (yn := 1) (by omega) (by omega) (fun f x q e => by rw [fX12_go_43, if_pos e]) (fun f x q e => by rw [fX12_go_43, if_neg e]; rfl) n 0 N N _ m (by omega) (by omega) (by omega) O1 B1 (MdR.drawn (by rw [hm _ _ (by omega)]; exact h.ty.1))
        exact ⟨M, M', r1, r2, r4, r6, r7⟩
      rw [mI_2, mI_2, mI_2, mI_2, h.sp.1, if_pos h.lo]
      by_cases e : zN n ≤ 0
      · rw [if_pos e]
        obtain ⟨M, M', r1, r2, r3, r4, r5⟩ := RUN R (fun _ _ _ => rfl)
        rw [r1, b_some, if_pos e, r2]
        have e0 : n = 0 := by
          have e : zN n ≤ zN 0 := e
          rw [zN_le (by omega) (by omega)] at e
          omega
        obtain ⟨N', rfl⟩ : ∃ N', N = N' + 1 := ⟨N - 1, by omega⟩
        rw [fX5_passMany_3, if_pos e] at r1
        rw [fX12_go_43, if_pos e] at r2
        have r1 := Option.some.inj r1
        have r2 := congrArg Prod.snd (Option.some.inj r2)
        dsimp only at r2
        subst r1
        subst r2
        have T : InvZ Z o nt nu nf (mI (mI (mI (mI mC 73 0 (0 : Int32)) 73 1 (-1 : Int32)) 73 2 (1 : Int32)) 73 3 (1 : Int32)) R := by
          refine h.cong (fun c k q => ?_) (fun c q => rfl) rfl (fun _ _ _ => rfl)
          unfold KC at q
          rw [mI_n (by omega), mI_n (by omega), mI_n (by omega), mI_n (by omega)]
        refine ⟨_, _, _, rfl, ?_, T.i⟩
        rw [show (mI (mI (mI (mI mC 73 0 (0 : Int32)) 73 1 (-1 : Int32)) 73 2 (1 : Int32)) 73 3 (1 : Int32)).1 43 9 = R.1 123 0 from r3.mi]
      · rw [if_neg e]
        obtain ⟨M, M', r1, r2, r3, r4, r5⟩ := RUN (mI R 99 51 0) (fun c k q => mI_n (by omega))
        rw [r1, b_some, if_neg e, r2]
        unfold fX7_forget
        rw [b_some]
        have B : BathR Z 43 0 (mI M 74 1 0) M' := r3.cong (fun c k _ _ => mI_n (by omega)) rfl (fun _ _ _ => rfl) (fun _ _ _ _ _ => rfl)
        refine ⟨_, _, _, rfl, ?_, (h.now B (PastR.no (mI_s ⟨rfl, rfl⟩) ?_) ⟨fun c k q => ?_, ?_, ?_⟩ (fun c k p1 p2 p3 p4 p5 p6 p7 => ?_)).i⟩
        · rw [B.mi]
        · rw [r5 _ _ (by omega) (by omega) (by omega), mI_s ⟨rfl, rfl⟩]
        · rw [mI_n (by omega), r4.1 c k (by omega), mI_n (by omega), mI_n (by omega), mI_n (by omega), mI_n (by omega)]
        · rw [mI_2, r4.2.1 _ _ (by omega) (by omega) (by omega), mI_2, mI_2, mI_2, mI_2]
        · rw [mI_2, r4.2.2, mI_2, mI_2, mI_2, mI_2]
        · rw [r5 _ _ (by omega) (by omega) (by omega), mI_n (by omega)]
    · rw [if_neg q, if_neg q]
      exact ⟨-1, _, _, rfl, rfl, h.i⟩
