/-! the start, and all calls -/
theorem od0 : OrdR (fun _ => 0) 7 mC0 mR0 := by
  refine ⟨Or.inl rfl, ⟨Nat.zero_le _, Nat.zero_le _, Nat.zero_le _, Nat.zero_le _, Nat.zero_le _⟩, fun i hi => ?_, fun i hi => ?_, fun i k c hi hk hc => absurd hk (Nat.not_lt_zero _), fun k hk => absurd hk (Nat.not_lt_zero _), fun k hk => absurd hk (Nat.not_lt_zero _), fun k hk => absurd hk (Nat.not_lt_zero _), fun k hk => absurd hk (Nat.not_lt_zero _), fun k hk => absurd hk (Nat.not_lt_zero _), ⟨rfl, 100, by omega, by omega, rfl⟩, ⟨rfl, 0, by omega, by omega, rfl⟩, fun r hr => ⟨0, 0, by omega, by omega, ?_, ?_, ?_, ?_, fun z => absurd z (by omega)⟩, rfl⟩
  · have : i = 0 ∨ i = 1 ∨ i = 2 ∨ i = 3 ∨ i = 4 := by omega
    rcases this with rfl | rfl | rfl | rfl | rfl <;> rfl
  · have : i = 0 ∨ i = 1 ∨ i = 2 ∨ i = 3 ∨ i = 4 := by omega
    rcases this with rfl | rfl | rfl | rfl | rfl <;> rfl
  · rfl
  · rfl
  · rfl
  · rfl
theorem inv0 {N : Nat} (hN : 100 ≤ N) : ∃ M M', fX0_begin N 43 7 mC0 = some M ∧ fX12_begins N mR0 = some M' ∧ Inv M M' := by
  obtain ⟨M, M', b1, b2, b3, b4, b5, b6⟩ := begin_rel (N := N) (b := 43) (s := 0) hN od0 (Or.inl rfl) (by omega)
  have gM : ∀ c k, c < 43 ∨ 52 < c → M.1 c k = mC0.1 c k := fun c k w => b4.1 c k (by omega)
  have gR : ∀ k, ¬ (k = 38) → M'.1 99 k = mR0.1 99 k := fun k w => b5 99 k (by omega) (by omega) (by omega)
  refine ⟨M, M', b1, ?_, InvZ.i (Z := fun _ => 0) (o := 7) (nt := 0) (nu := 0) (nf := 0) ⟨od0.fr (by omega) b4 b5, ⟨?_, ?_⟩, b3, Or.inl ⟨?_, ?_⟩, ⟨by omega, ?_, ?_, fun j hj => absurd hj (by omega)⟩, ⟨?_, ?_⟩, ⟨?_, ?_⟩, ⟨by omega, ?_, ?_, fun i hi => absurd hi (by omega)⟩, ⟨by omega, ?_, ?_, Or.inl ⟨?_, ?_⟩, fun i hi => absurd hi (by omega)⟩, ⟨fun w hw => ?_, fun o' i w1 w2 => ?_⟩⟩⟩
  · unfold fX12_begins
    rw [show fX12_starts N (0 : Int32) mR0 = _ from b2, b_some]
  · rw [b4.2.2]
    rfl
  · rw [b4.2.2]
    rfl
  · rw [gM _ _ (by omega)]
    rfl
  · rw [gR _ (by omega)]
    rfl
  · rw [gM _ _ (by omega)]
    rfl
  · rw [gR _ (by omega)]
    rfl
  · rw [gM _ _ (by omega), gR _ (by omega)]
    rfl
  · rw [gM _ _ (by omega), gR _ (by omega)]
    rfl
  · rw [gR _ (by omega)]
    rfl
  · rw [gR _ (by omega)]
    rfl
  · rw [gM _ _ (by omega)]
    rfl
  · rw [gR _ (by omega)]
    rfl
  · rw [gM _ _ (by omega)]
    rfl
  · rw [gR _ (by omega)]
    rfl
  · rw [gM _ _ (by omega)]
    rfl
  · rw [gR _ (by omega)]
    rfl
  · rw [gM _ _ (by omega)]
    rfl
  · rw [gM _ _ (by omega)]
    have : i = 0 ∨ i = 1 ∨ i = 2 ∨ i = 3 ∨ i = 4 := by omega
    rcases w1 with rfl | rfl <;> rcases this with rfl | rfl | rfl | rfl | rfl <;> rfl
theorem ops_ok {N : Nat} (hN : 2000 ≤ N) : OPS Inv N := by
  have a : 1000 ≤ N := by omega
  have b : 100 ≤ N := by omega
  exact ⟨op0 a, op1 a, op2, op3 b, op4 b, op5, op6 b, op7 b, op8 b, op9 b, op10 b, op11 b, op12 a, op13 a, op14 a, op15 a, op16 b, op17 b, op18 b, op19 a, op20 a, op21 hN, op22 b, op23 b, op24 b, op25 a, op26, op27, op28, op29 a, op30 a, op31 a, op32 a, op33 b, op34 b, op35 b, op36 a⟩
theorem whole_start {p : Program} {e : Env} {s : State} {m : MethodId} {below : List Frame} {meth : Method} {c : Code} (l : Launch) (hflags : l.flags = flags0) {b L : Nat} {xs : Nat → Int32} (hL : L ≤ 3072) (C0 : lw_At p s m meth c b L xs) : W p l e room_1 s m #[Value.ref b] below meth c s.heap [] 0 0 (lw_Z below #[Value.ref b] s) (entryFrame m ([Value.ref b] : List Value).toArray 7) := by
  obtain ⟨M, M', h1, h2, h3⟩ := inv0 (N := 3000) (by omega)
  exact start_of l hflags hL C0 (ops_ok (N := 3000) (by omega)) M M' h1 h2 h3
