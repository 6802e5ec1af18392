/-! the call text -/
theorem halves_ok {N : Nat} {m : Mem} (hN : 1000 ≤ N) : ∃ M, (∀ K : Mem → Option (Int32 × Mem), (fX12_half N 101 m).bind (fun q101 => (fX12_half N 102 q101).bind (fun q102 => (fX12_half N 103 q102).bind (fun q103 => (fX12_half N 104 q103).bind (fun q104 => (fX12_half N 105 q104).bind (fun q105 => (fX12_half N 106 q105).bind (fun q106 => (fX12_half N 107 q106).bind (fun q107 => (fX12_half N 108 q107).bind (fun q108 => (fX12_half N 109 q108).bind (fun q109 => (fX12_half N 110 q109).bind (fun q110 => (fX12_half N 111 q110).bind (fun q111 => (fX12_half N 112 q111).bind (fun q112 => (fX12_half N 113 q112).bind (fun q113 => (fX12_half N 114 q113).bind (fun q114 => (fX12_half N 115 q114).bind (fun q115 => (fX12_half N 116 q115).bind (fun q116 => (fX12_half N 117 q116).bind (fun q117 => (fX12_half N 118 q117).bind (fun q118 => (fX12_half N 119 q118).bind (fun q119 => (fX12_half N 120 q119).bind (fun q120 => K q120)))))))))))))))))))) = K M) ∧ HS m 121 M := by
  have s100 : HS m 101 m := ⟨rfl, fun q j => by rw [if_neg (by omega)]⟩
  obtain ⟨H101, e101, s101⟩ := half_seq (N := N) (c := 101) (by omega) (by omega) (by omega) s100
  obtain ⟨H102, e102, s102⟩ := half_seq (N := N) (c := 102) (by omega) (by omega) (by omega) s101
  obtain ⟨H103, e103, s103⟩ := half_seq (N := N) (c := 103) (by omega) (by omega) (by omega) s102
  obtain ⟨H104, e104, s104⟩ := half_seq (N := N) (c := 104) (by omega) (by omega) (by omega) s103
  obtain ⟨H105, e105, s105⟩ := half_seq (N := N) (c := 105) (by omega) (by omega) (by omega) s104
  obtain ⟨H106, e106, s106⟩ := half_seq (N := N) (c := 106) (by omega) (by omega) (by omega) s105
  obtain ⟨H107, e107, s107⟩ := half_seq (N := N) (c := 107) (by omega) (by omega) (by omega) s106
  obtain ⟨H108, e108, s108⟩ := half_seq (N := N) (c := 108) (by omega) (by omega) (by omega) s107
  obtain ⟨H109, e109, s109⟩ := half_seq (N := N) (c := 109) (by omega) (by omega) (by omega) s108
  obtain ⟨H110, e110, s110⟩ := half_seq (N := N) (c := 110) (by omega) (by omega) (by omega) s109
  obtain ⟨H111, e111, s111⟩ := half_seq (N := N) (c := 111) (by omega) (by omega) (by omega) s110
  obtain ⟨H112, e112, s112⟩ := half_seq (N := N) (c := 112) (by omega) (by omega) (by omega) s111
  obtain ⟨H113, e113, s113⟩ := half_seq (N := N) (c := 113) (by omega) (by omega) (by omega) s112
  obtain ⟨H114, e114, s114⟩ := half_seq (N := N) (c := 114) (by omega) (by omega) (by omega) s113
  obtain ⟨H115, e115, s115⟩ := half_seq (N := N) (c := 115) (by omega) (by omega) (by omega) s114
  obtain ⟨H116, e116, s116⟩ := half_seq (N := N) (c := 116) (by omega) (by omega) (by omega) s115
  obtain ⟨H117, e117, s117⟩ := half_seq (N := N) (c := 117) (by omega) (by omega) (by omega) s116
  obtain ⟨H118, e118, s118⟩ := half_seq (N := N) (c := 118) (by omega) (by omega) (by omega) s117
  obtain ⟨H119, e119, s119⟩ := half_seq (N := N) (c := 119) (by omega) (by omega) (by omega) s118
  obtain ⟨H120, e120, s120⟩ := half_seq (N := N) (c := 120) (by omega) (by omega) (by omega) s119
  exact ⟨H120, fun K => by rw [e101, b_some, e102, b_some, e103, b_some, e104, b_some, e105, b_some, e106, b_some, e107, b_some, e108, b_some, e109, b_some, e110, b_some, e111, b_some, e112, b_some, e113, b_some, e114, b_some, e115, b_some, e116, b_some, e117, b_some, e118, b_some, e119, b_some, e120, b_some], s120⟩
theorem InvZ.txt {Z : Nat → Nat} {o nt nu nf : Nat} {A B A' B' : Mem} (h : InvZ Z o nt nu nf A B) (hC : ∀ c k, ¬ (c = 0 ∧ k = 1) → ¬ (2 ≤ c ∧ c ≤ 5) → ¬ (32 - o ≤ c ∧ c < 32 - o + 16) → A'.1 c k = A.1 c k) (hm : ∀ i, i < 5 → A'.1 (32 - o + 1 + 2 * i) 0 = A.1 (32 - o + 1 + 2 * i) 0) (hJ : A'.2 = A.2) (hR : ∀ c k, ¬ (c = 99 ∧ (k = 0 ∨ k = 2 ∨ (23 ≤ k ∧ k ≤ 35))) → ¬ (101 ≤ c ∧ c ≤ 120 ∧ hf c ≤ k) → B'.1 c k = B.1 c k) (e1 : A'.1 0 1 = 0) (e2 : B'.1 99 2 = 0) (ft : A'.1 2 7 = B'.1 99 32 ∧ A'.1 2 8 = B'.1 99 33) : InvZ Z o 0 nu nf A' B' := by
  have hz := h.nw.zz
  have ho := h.od.ho
  refine ⟨h.od.cong3 (fun c k q q' => hC c k (by omega) (by omega) (by omega)) (fun c k a b e => hR c k (by omega) (by omega)), ?_, h.nw.cong (fun c k a b => hC c k (by omega) (by omega) (by omega)) (by rw [hJ]) (fun c a b => hR c _ (by omega) (by omega)) (fun c k a b e => hR c _ (by omega) (by omega)), ?_, ⟨by omega, e1, e2, fun j hj => absurd hj (by omega)⟩, ft, ?_, h.ps.cong hz (hC _ _ (by omega) (by omega) (by omega)) (fun k => hC _ _ (by omega) (by omega) (by omega)) (fun c k a b e => hR _ _ (by omega) (by omega)) (fun c k a b => hR _ _ (by omega) (by omega)) (fun c k a b e => hR _ _ (by omega) (by omega)) (hR _ _ (by omega) (by omega)), h.fa.cong (fun c k a b => hC _ _ (by omega) (by omega) (by omega)) (hR _ _ (by omega) (by omega)) (hR _ _ (by omega) (by omega)) (fun c k a b => hR _ _ (by omega) (by omega)), h.cs.cong (fun w => hC _ _ (by omega) (by omega) (by omega)) (fun o' i a b => ?_)⟩
  · rw [hJ]
    exact h.sp
  · rw [hC 0 8 (by omega) (by omega) (by omega), hR 99 50 (by omega) (by omega)]
    rcases h.im with q | ⟨q1, q2, q3⟩
    · exact Or.inl q
    · exact Or.inr ⟨q1, q2, q3.cong (fun c k a b => hC c k (by omega) (by omega) (by omega)) (by rw [hJ]) (fun c a b => hR c _ (by omega) (by omega)) (fun c k a b e => hR c _ (by omega) (by omega))⟩
  · rw [hR 99 52 (by omega) (by omega), hR 99 53 (by omega) (by omega)]
    exact h.ty
  · by_cases e : o' = 32 - o
    · rw [e]
      exact hm i b
    · exact hC _ _ (by omega) (by omega) (by omega)
theorem lay_o {q : Nat} (h : q = 7 ∨ q = 25) : lay q = (0, 6) := by
  rcases h with rfl | rfl <;> rfl
theorem op1 {N : Nat} (hN : 1000 ≤ N) : OP1 Inv N := by
  intro A B x1 ⟨Z, o, nt, nu, nf, h⟩
  have h := h.th 0
  unfold fX11_text fX12_text
  generalize mI B 99 0 (0 : Int32) = B0 at h ⊢
  have ho := h.od.ho
  have hq : 32 - o = 7 ∨ 32 - o = 25 := by omega
  have hb := h.tp.nb
  rcases zN_or x1 with q | ⟨n, hn, rfl⟩
  · rw [if_pos q, if_pos q]
    exact ⟨_, _, _, rfl, rfl, h.i⟩
  · rw [if_neg (znn hn), if_neg (znn hn), h.tp.tc, h.tp.tr]
    by_cases q : n ≤ nt
    · rw [if_pos (zle' (by omega) (by omega) q), if_pos (zle' (by omega) (by omega) q), show (mI A 0 1 (0 : Int32)).2.2 4 = 32 - o from h.sp.2, if_pos (lay_o hq)]
      obtain ⟨bt, A1, B1, p, pl, c1, c2, c3, c4, c5, c6, c7, c8, c9, c10, c11⟩ := text_start hN h q
      rw [c1, c2]
      obtain ⟨B2, t1, t2⟩ := lines_ok hN n 0 (fun _ => 0) p pl 0 N N A1 B1 (by omega) (by omega) (by omega) c3 c4 c5
      rw [t1]
      have E30 : (mI (mI B2 99 32 (B2.1 99 30)) 99 33 ((mI B2 99 32 (B2.1 99 30)).1 99 31)).1 99 30 = B2.1 99 30 := by rw [mI_n (by omega), mI_n (by omega)]
      have E32 : (mI (mI B2 99 32 (B2.1 99 30)) 99 33 ((mI B2 99 32 (B2.1 99 30)).1 99 31)).1 99 32 = B2.1 99 30 := by rw [mI_n (by omega), mI_s ⟨rfl, rfl⟩]
      have E33 : (mI (mI B2 99 32 (B2.1 99 30)) 99 33 ((mI B2 99 32 (B2.1 99 30)).1 99 31)).1 99 33 = B2.1 99 31 := by rw [mI_s ⟨rfl, rfl⟩, mI_n (by omega)]
      have Eo : ∀ c k, ¬ (c = 99 ∧ (k = 32 ∨ k = 33)) → (mI (mI B2 99 32 (B2.1 99 30)) 99 33 ((mI B2 99 32 (B2.1 99 30)).1 99 31)).1 c k = B2.1 c k := fun c k w => by rw [mI_n (by omega), mI_n (by omega)]
      unfold fX12_text_149
      rw [E30]
      rcases t2 with ⟨A2, d1, d2, d3, d4⟩ | ⟨Z', p', pl', s', A2, d1, d2, d3, d4, d5⟩
      · rw [d1, b_some, if_pos rfl, if_neg d2.2.2]
        refine ⟨_, _, _, rfl, rfl, InvZ.i (h.txt (fun c k w1 w2 w3 => by rw [d3.1 c k w2 w3, c6 c k w1 w2 w3]) (fun i hi => by rw [d3.2.1 i hi, c7 i hi]) (d3.2.2.trans c8) (fun c k w1 w2 => by rw [Eo _ _ (by omega), d4 _ _ (by omega) w2, c10 _ _ (by omega) w2]) (by rw [d3.1 _ _ (by omega) (by omega), c9]) (by rw [Eo _ _ (by omega), d4 _ _ (by omega) (by omega), c11]) ?_)⟩
        rw [E32, E33]
        exact ⟨d2.1, d2.2.1⟩
      · have sp3 : A2.2.2 3 = o := by
          rw [d4.2.2, c8]
          exact h.sp.1
        have sp4 : A2.2.2 4 = 32 - o := by
          rw [d4.2.2, c8]
          exact h.sp.2
        generalize eq : 32 - o = q' at *
        have q7 : 7 ≤ q' ∧ q' ≤ 25 := by omega
        rw [d1, b_some, if_neg z10]
        dsimp only
        rw [sp3, sp4, if_pos (lay_o ho), if_pos (lay_o hq), if_pos d2.fl]
        obtain ⟨H, k1, k2, k3⟩ := halves_ok (N := N) (m := mI (mI B2 99 32 (B2.1 99 30)) 99 33 ((mI B2 99 32 (B2.1 99 30)).1 99 31)) hN
        rw [show ∀ K : Mem → Option (Int32 × Mem), _ = K H from k1]
        have S3 : (mR (mR A2 3 q') 4 o).2.2 3 = q' := rfl
        have S4 : (mR (mR A2 3 q') 4 o).2.2 4 = o := rfl
        rw [S3, if_pos (lay_o hq)]
        have hH : ∀ c k, c = 99 → ¬ (k = 32 ∨ k = 33) → H.1 c k = B2.1 c k := fun c k w1 w2 => by rw [k3, if_neg (by omega), Eo _ _ (by omega)]
        have OD : OrdR Z' q' (mR (mR A2 3 q') 4 o) (mI (mI (mI (mI H 99 58 (0 : Int32)) 99 59 (-1 : Int32)) 99 50 (0 : Int32)) 99 51 (0 : Int32)) := d2.od.cong3 (fun c k w1 w2 => rfl) (fun c k w1 w2 w3 => by rw [mI_n (by omega), mI_n (by omega), mI_n (by omega), mI_n (by omega), k3, if_pos (by omega), hfM_at w1 w2, Eo _ _ (by omega)])
        obtain ⟨M, M', b1, b2, b3, b4, b5, b6⟩ := begin_rel (N := N) (b := 43) (s := 0) (by omega) OD (Or.inl rfl) (by omega)
        have gM : ∀ c k, c < 43 ∨ 52 < c → M.1 c k = A2.1 c k := fun c k w => b4.1 c k (by omega)
        have gR : ∀ c k, c = 99 → ¬ (k = 38) → M'.1 c k = (mI (mI (mI (mI H 99 58 (0 : Int32)) 99 59 (-1 : Int32)) 99 50 (0 : Int32)) 99 51 (0 : Int32)).1 c k := fun c k w1 w2 => b5 c k (by omega) (by omega) (by omega)
        have gN : ∀ k, ¬ (k = 38 ∨ k = 58 ∨ k = 59 ∨ k = 50 ∨ k = 51) → M'.1 99 k = H.1 99 k := fun k w => by rw [gR _ _ rfl (by omega), mI_n (by omega), mI_n (by omega), mI_n (by omega), mI_n (by omega)]
        unfold fX12_begins
        rw [b1, b_some, show fX12_starts N (0 : Int32) _ = _ from b2, b_some, b_some]
        unfold fX1_forget fX7_forget
        rw [b_some, b_some]
        have r3 : (mI (mI (mI (mI M 76 6 (0 : Int32)) 76 7 (-1 : Int32)) 74 1 (0 : Int32)) 0 8 (0 : Int32)).2.2 3 = q' := by
          show M.2.2 3 = q'
          rw [b4.2.2]
          exact S3
        have r4 : (mI (mI (mI (mI M 76 6 (0 : Int32)) 76 7 (-1 : Int32)) 74 1 (0 : Int32)) 0 8 (0 : Int32)).2.2 4 = o := by
          show M.2.2 4 = o
          rw [b4.2.2]
          exact S4
        rw [r3, if_pos (lay_o hq)]
        have gF : ∀ c k, ¬ (c = 0 ∧ k = 8) → c ≠ 74 → c ≠ 76 → (mI (mI (mI (mI M 76 6 (0 : Int32)) 76 7 (-1 : Int32)) 74 1 (0 : Int32)) 0 8 (0 : Int32)).1 c k = M.1 c k := fun c k w1 w2 w3 => by rw [mI_n (by omega), mI_n (by omega), mI_n (by omega), mI_n (by omega)]
        have rr : (mI (mI (mI (mI M 76 6 (0 : Int32)) 76 7 (-1 : Int32)) 74 1 (0 : Int32)) 0 8 (0 : Int32)).1 q' 10 = M'.1 99 24 := by rw [gF _ _ (by omega) (by omega) (by omega), gM _ _ (by omega), d3, gN _ (by omega), hH _ _ rfl (by omega)]
        have h30 : B2.1 99 30 = 0 := d2.fl
        obtain ⟨z1, z2, z3⟩ := d2.fz
        refine ⟨_, _, _, rfl, by rw [rr], InvZ.i (Z := Z') (o := q') (nt := 0) (nu := 0) (nf := 0) ⟨?_, ⟨r3, by rw [r4]; omega⟩, ?_, Or.inl ⟨mI_s ⟨rfl, rfl⟩, ?_⟩, ⟨by omega, ?_, ?_, fun j hj => absurd hj (by omega)⟩, ⟨?_, ?_⟩, ⟨?_, ?_⟩, ⟨by omega, ?_, ?_, fun i hi => absurd hi (by omega)⟩, ⟨by omega, ?_, ?_, Or.inl ⟨?_, ?_⟩, fun i hi => absurd hi (by omega)⟩, ⟨fun w hw => ?_, fun o' i w1 w2 => ?_⟩⟩⟩
        · exact (OD.fr (by omega) b4 b5).cong3 (fun c k w1 w2 => gF c k (by omega) (by omega) (by omega)) (fun _ _ _ _ _ => rfl)
        · exact b3.cong (fun c k w1 w2 => gF c k (by omega) (by omega) (by omega)) rfl (fun _ _ _ => rfl) (fun _ _ _ _ _ => rfl)
        · rw [gR _ _ rfl (by omega), mI_n (by omega), mI_s ⟨rfl, rfl⟩]
        · rw [gF _ _ (by omega) (by omega) (by omega), gM _ _ (by omega), d4.1 _ _ (by omega) (by omega), c9]
          rfl
        · rw [gN _ (by omega), hH _ _ rfl (by omega), d5 _ _ (by omega) (by omega), c11]
          rfl
        · rw [gF _ _ (by omega) (by omega) (by omega), gM _ _ (by omega), z1, gN _ (by omega), k3, if_neg (by omega), E32, h30]
        · rw [gF _ _ (by omega) (by omega) (by omega), gM _ _ (by omega), z2, gN _ (by omega), k3, if_neg (by omega), E33, z3]
        · rw [gN _ (by omega), hH _ _ rfl (by omega), d5 _ _ (by omega) (by omega), c10 _ _ (by omega) (by omega)]
          exact h.ty.1
        · rw [gN _ (by omega), hH _ _ rfl (by omega), d5 _ _ (by omega) (by omega), c10 _ _ (by omega) (by omega)]
          exact h.ty.2
        · rw [mI_n (by omega), mI_s ⟨rfl, rfl⟩]
          rfl
        · rw [gR _ _ rfl (by omega), mI_s ⟨rfl, rfl⟩]
          rfl
        · rw [mI_n (by omega), mI_n (by omega), mI_n (by omega), mI_s ⟨rfl, rfl⟩]
          rfl
        · rw [gR _ _ rfl (by omega), mI_n (by omega), mI_n (by omega), mI_n (by omega), mI_s ⟨rfl, rfl⟩]
          rfl
        · rw [mI_n (by omega), mI_n (by omega), mI_s ⟨rfl, rfl⟩]
        · rw [gR _ _ rfl (by omega), mI_n (by omega), mI_n (by omega), mI_s ⟨rfl, rfl⟩]
        · rw [gF _ _ (by omega) (by omega) (by omega), gM _ _ (by omega), d4.1 _ _ (by omega) (by omega), c6 _ _ (by omega) (by omega) (by omega)]
          exact h.cs.wd w hw
        · rw [gF _ _ (by omega) (by omega) (by omega), gM _ _ (by omega)]
          by_cases e : o' = q'
          · rw [e]
            exact d2.ms i w2
          · rw [d4.1 _ _ (by omega) (by omega), c6 _ _ (by omega) (by omega) (by omega)]
            exact h.cs.ms o' i w1 w2
    · rw [if_neg (zle (by omega) (by omega) (by omega)), if_neg (zle (by omega) (by omega) (by omega))]
      exact ⟨_, _, _, rfl, rfl, h.i⟩
