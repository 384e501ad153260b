theorem ws_laysStatic : Cond.laysStatic "SingleShares$Finder" "PRIMES_FALLING" "[I" ∈ lw_tbl := List.mem_append_right _ (List.mem_of_getElem? (i := 363) (by decide +kernel))
theorem wn_0 : Cond.methodLinkNest RX7 18 yX3_init RX7 ∈ lw_tbl := List.mem_append_right _ (List.mem_of_getElem? (i := 23) (by decide +kernel))
theorem wn_1 : Cond.methodLinkNest RX7 25 yX2_init RX7 ∈ lw_tbl := List.mem_append_right _ (List.mem_of_getElem? (i := 38) (by decide +kernel))
theorem wn_2 : Cond.methodLinkNest RX7 39 yX6_init RX7 ∈ lw_tbl := List.mem_append_right _ (List.mem_of_getElem? (i := 133) (by decide +kernel))
theorem wn_3 : Cond.methodLinkNest RX7 46 yX0_init RX7 ∈ lw_tbl := List.mem_append_right _ (List.mem_of_getElem? (i := 149) (by decide +kernel))
theorem wn_4 : Cond.methodLinkNest RX7 53 yX5_init RX7 ∈ lw_tbl := List.mem_append_right _ (List.mem_of_getElem? (i := 186) (by decide +kernel))
theorem wn_5 : Cond.methodLinkNest RX2 97 yX7_inverse RX7 ∈ lw_tbl := List.mem_append_right _ (List.mem_of_getElem? (i := 380) (by decide +kernel))
theorem wn_6 : Cond.methodLinkNest RX2 117 yX7_commonDivisor RX7 ∈ lw_tbl := List.mem_append_right _ (List.mem_of_getElem? (i := 393) (by decide +kernel))
theorem wn_7 : Cond.methodLinkNest RX2 141 yX7_roundedUp RX7 ∈ lw_tbl := List.mem_append_right _ (List.mem_of_getElem? (i := 418) (by decide +kernel))
theorem wn_8 : Cond.methodLinkNest RX3 42 yX7_roundedUp RX7 ∈ lw_tbl := List.mem_append_right _ (List.mem_of_getElem? (i := 294) (by decide +kernel))
theorem wn_9 : Cond.methodLinkNest RX3 57 yX7_commonDivisor RX7 ∈ lw_tbl := List.mem_append_right _ (List.mem_of_getElem? (i := 304) (by decide +kernel))
theorem wn_10 : Cond.methodLinkNest RX3 68 yX7_inverse RX7 ∈ lw_tbl := List.mem_append_right _ (List.mem_of_getElem? (i := 323) (by decide +kernel))
theorem wn_11 : Cond.methodLinkNest RX5 33 yX7_commonDivisor RX7 ∈ lw_tbl := List.mem_append_right _ (List.mem_of_getElem? (i := 642) (by decide +kernel))
set_option maxHeartbeats 4000000 in
set_option maxRecDepth 100000 in
/-- the law from its entry, out of what its walk asks of numbers alone -/
theorem whole_of (HM : ∀ (L : Nat) (xs : Nat → Int32), L ≤ 2560 → wp_L_law (fun v => v = 1) L xs) {p : Program} {e : Env} {s : State} {m : MethodId} {below : List Frame} {meth : Method} {c : Code} (l : Launch) {b L : Nat} {xs : Nat → Int32} (hL : L ≤ 2560) (C0 : lw_At p s m meth c b L xs) : W p l e room_1 s m #[Value.ref b] below meth c s.heap [] 0 0 (lw_Z below #[Value.ref b] s) (entryFrame m ([Value.ref b] : List Value).toArray 4) := by
  obtain ⟨hx, hb, hr, hml, hown, hts, hX, hbl, hlocks, hgv⟩ := id C0
  have hTT : ∀ w ∈ TT, w.before #[Value.ref b] s = true := fun w hw => hts w (TT_in w hw)
  have hA0 : ∀ a : Nat, a < s.heap.size → ¬ (fun q : Nat => s.heap.size ≤ q) a := fun a h => Nat.not_le.mpr h
  obtain ⟨c0, iS0, hKn0⟩ := u_known (C := RX0) (T := TX0) (N := 10) (n := 10) hTT inX0 (hTT _ wY_X0)
  obtain ⟨c1, iS1, hKn1⟩ := u_known (C := RX1) (T := TX1) (N := 12) (n := 12) hTT inX1 (hTT _ wY_X1)
  obtain ⟨c2, iS2, hKn2⟩ := u_known (C := RX2) (T := TX2) (N := 14) (n := 14) hTT inX2 (hTT _ wY_X2)
  obtain ⟨c3, iS3, hKn3⟩ := u_known (C := RX3) (T := TX3) (N := 2) (n := 2) hTT inX3 (hTT _ wY_X3)
  obtain ⟨c4, iS4, hKn4⟩ := u_known (C := RX5) (T := TX5) (N := 6) (n := 6) hTT inX5 (hTT _ wY_X5)
  obtain ⟨c5, iS5, hKn5⟩ := u_known (C := RX6) (T := TX6) (N := 3) (n := 3) hTT inX6 (hTT _ wY_X6)
  obtain ⟨c6, iS6, hKn6⟩ := u_known (C := RX7) (T := TX7) (N := 8) (n := 8) hTT inX7 (hTT _ wY_X7)
  obtain ⟨c7, iS7, hKn7⟩ := u_known (C := RX8) (T := TX8) (N := 24) (n := 24) hTT inX8 (hTT _ wY_X8)
  obtain ⟨dC, dI, hKc⟩ : ∃ (dC : Nat → ClassId) (dI : Nat → Nat → Nat), ∀ (k : Nat) (q : vw_C), vwCl[k]? = some q → u_Kn s q.1 q.2.1 q.2.2 (dC k) (dI k) := by
    refine ⟨fun k => if k = 0 then c0 else if k = 1 then c1 else if k = 2 then c2 else if k = 3 then c3 else if k = 4 then c4 else if k = 5 then c5 else if k = 6 then c6 else c7, fun k => if k = 0 then iS0 else if k = 1 then iS1 else if k = 2 then iS2 else if k = 3 then iS3 else if k = 4 then iS4 else if k = 5 then iS5 else if k = 6 then iS6 else iS7, ?_⟩
    intro k q hq
    match k, hq with
    | 0, hq => cases hq; exact hKn0
    | 1, hq => cases hq; exact hKn1
    | 2, hq => cases hq; exact hKn2
    | 3, hq => cases hq; exact hKn3
    | 4, hq => cases hq; exact hKn4
    | 5, hq => cases hq; exact hKn5
    | 6, hq => cases hq; exact hKn6
    | 7, hq => cases hq; exact hKn7
    | k + 8, hq => simp [vwCl] at hq
  obtain ⟨cI, kI, compI, hI1, hI2, hI3⟩ := Cond.arrayClass_spec (hTT _ wA_I)
  obtain ⟨cJ, kJ, compJ, hJ1, hJ2, hJ3⟩ := Cond.arrayClass_spec (hTT _ wA_L)
  have hK : va_K (dC, dI) vwCl (tys2 cI cJ) s := ⟨hKc, fun k q hq => by
    match k, hq with
    | 0, hq => cases hq; exact ⟨fun n z => ⟨fun k h => (by cases h), kI, hI2, compI, hI3⟩, hI1⟩
    | 1, hq => cases hq; exact ⟨fun n z => ⟨fun k h => (by cases h), kJ, hJ2, compJ, hJ3⟩, hJ1⟩
    | k + 2, hq => simp [tys2] at hq⟩
  have hs := flat_of_before _ hgv
  have harr : (Cond.arrayOf (.static "SingleShares$Finder" "PRIMES_FALLING" "[I") .int).before #[Value.ref b] s = true := hs _ (by decide +kernel)
  have hlen := va_eqt (hs (Cond.eq (.length (.static "SingleShares$Finder" "PRIMES_FALLING" "[I")) (.int 17)) (by decide +kernel))
  have hel : ∀ j : Nat, j < 17 → (Term.elem (.static "SingleShares$Finder" "PRIMES_FALLING" "[I") (.int (Int32.ofNat j))).eval #[Value.ref b] s none [] s = some ((fun j : Nat => Value.int (i32 (prmF j))) j) := by
    intro j hj
    match j, hj with
    | 0, _ => exact va_eqt (hs (Cond.eq (.elem (.static "SingleShares$Finder" "PRIMES_FALLING" "[I") (.int 0)) (.int 59)) (by decide +kernel))
    | 1, _ => exact va_eqt (hs (Cond.eq (.elem (.static "SingleShares$Finder" "PRIMES_FALLING" "[I") (.int 1)) (.int 53)) (by decide +kernel))
    | 2, _ => exact va_eqt (hs (Cond.eq (.elem (.static "SingleShares$Finder" "PRIMES_FALLING" "[I") (.int 2)) (.int 47)) (by decide +kernel))
    | 3, _ => exact va_eqt (hs (Cond.eq (.elem (.static "SingleShares$Finder" "PRIMES_FALLING" "[I") (.int 3)) (.int 43)) (by decide +kernel))
    | 4, _ => exact va_eqt (hs (Cond.eq (.elem (.static "SingleShares$Finder" "PRIMES_FALLING" "[I") (.int 4)) (.int 41)) (by decide +kernel))
    | 5, _ => exact va_eqt (hs (Cond.eq (.elem (.static "SingleShares$Finder" "PRIMES_FALLING" "[I") (.int 5)) (.int 37)) (by decide +kernel))
    | 6, _ => exact va_eqt (hs (Cond.eq (.elem (.static "SingleShares$Finder" "PRIMES_FALLING" "[I") (.int 6)) (.int 31)) (by decide +kernel))
    | 7, _ => exact va_eqt (hs (Cond.eq (.elem (.static "SingleShares$Finder" "PRIMES_FALLING" "[I") (.int 7)) (.int 29)) (by decide +kernel))
    | 8, _ => exact va_eqt (hs (Cond.eq (.elem (.static "SingleShares$Finder" "PRIMES_FALLING" "[I") (.int 8)) (.int 23)) (by decide +kernel))
    | 9, _ => exact va_eqt (hs (Cond.eq (.elem (.static "SingleShares$Finder" "PRIMES_FALLING" "[I") (.int 9)) (.int 19)) (by decide +kernel))
    | 10, _ => exact va_eqt (hs (Cond.eq (.elem (.static "SingleShares$Finder" "PRIMES_FALLING" "[I") (.int 10)) (.int 17)) (by decide +kernel))
    | 11, _ => exact va_eqt (hs (Cond.eq (.elem (.static "SingleShares$Finder" "PRIMES_FALLING" "[I") (.int 11)) (.int 13)) (by decide +kernel))
    | 12, _ => exact va_eqt (hs (Cond.eq (.elem (.static "SingleShares$Finder" "PRIMES_FALLING" "[I") (.int 12)) (.int 11)) (by decide +kernel))
    | 13, _ => exact va_eqt (hs (Cond.eq (.elem (.static "SingleShares$Finder" "PRIMES_FALLING" "[I") (.int 13)) (.int 7)) (by decide +kernel))
    | 14, _ => exact va_eqt (hs (Cond.eq (.elem (.static "SingleShares$Finder" "PRIMES_FALLING" "[I") (.int 14)) (.int 5)) (by decide +kernel))
    | 15, _ => exact va_eqt (hs (Cond.eq (.elem (.static "SingleShares$Finder" "PRIMES_FALLING" "[I") (.int 15)) (.int 3)) (by decide +kernel))
    | 16, _ => exact va_eqt (hs (Cond.eq (.elem (.static "SingleShares$Finder" "PRIMES_FALLING" "[I") (.int 16)) (.int 2)) (by decide +kernel))
    | j + 17, hj => omega
  obtain ⟨zt, hzt, hT⟩ := va_Tof (A := fun q : Nat => s.heap.size ≤ q) (by decide) harr hlen hel hA0
  have hZ := va_Zref (hts _ ws_laysStatic) (hTT _ wZ_X2) hzt hA0
  have hN : Nn s := by
    intro q hq
    obtain ⟨i, hi⟩ := List.getElem?_of_mem hq
    match i, hi with
    | 0, hi => cases hi; exact va_Nw.of rfl (hts _ wn_0)
    | 1, hi => cases hi; exact va_Nw.of rfl (hts _ wn_1)
    | 2, hi => cases hi; exact va_Nw.of rfl (hts _ wn_2)
    | 3, hi => cases hi; exact va_Nw.of rfl (hts _ wn_3)
    | 4, hi => cases hi; exact va_Nw.of rfl (hts _ wn_4)
    | 5, hi => cases hi; exact va_Nw.of rfl (hts _ wn_5)
    | 6, hi => cases hi; exact va_Nw.of rfl (hts _ wn_6)
    | 7, hi => cases hi; exact va_Nw.of rfl (hts _ wn_7)
    | 8, hi => cases hi; exact va_Nw.of rfl (hts _ wn_8)
    | 9, hi => cases hi; exact va_Nw.of rfl (hts _ wn_9)
    | 10, hi => cases hi; exact va_Nw.of rfl (hts _ wn_10)
    | 11, hi => cases hi; exact va_Nw.of rfl (hts _ wn_11)
    | i + 12, hi => simp [NNl] at hi
  have key := law_walk (X := (p, l, e, room_1, s, m, #[Value.ref b], below, meth, c, (dC, dI), (cI, cJ), zt, (fun q : Nat => s.heap.size ≤ q), 4, lw_Z below #[Value.ref b] s)) ⟨hx, hb, hr, hml, hown, hTT, hlocks, hK, fun _ h => h, ⟨hZ, hT⟩, rfl, hN⟩ rfl b L xs ⟨hX, hbl, Nat.not_le.mpr hbl, hL, rfl, rfl, fun _ h => h⟩ (fun v => v = 1) (fun _ h => h) (HM L xs hL)
  have hl := lv_entry ([.ref b]) (n := 4) (Nat.le_of_ble_eq_true rfl)
  rw [lg_entry_eq]
  exact key _ s.heap [] hl (fun k q h => by simp at h) ⟨fun i j p q h => by simp at h, fun k q h => by simp at h⟩ va_S.rf
