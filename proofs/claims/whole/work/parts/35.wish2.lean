/-! a byte of a long, by either shift -/
theorem bv_byte (X : BitVec 64) (k : Nat) (hk : k ≤ 56) : (X >>> k) &&& 255#64 = (X.sshiftRight k) &&& 255#64 := by
  apply BitVec.eq_of_getLsbD_eq
  intro i hi
  rw [BitVec.getLsbD_and, BitVec.getLsbD_and, BitVec.getLsbD_ushiftRight, BitVec.getLsbD_sshiftRight]
  by_cases h8 : i < 8
  · have h1 : ¬ 64 ≤ i := by omega
    have h2 : k + i < 64 := by omega
    simp [h1, h2]
  · have : (255#64).getLsbD i = false := by
      have : (255#64) = BitVec.ofNat 64 (2 ^ 8 - 1) := rfl
      rw [this, BitVec.getLsbD_ofNat, Nat.testBit_two_pow_sub_one]
      simp [h8]
    rw [this, Bool.and_false, Bool.and_false]
theorem byte_k (x : Int64) (k : Nat) (hk : k ≤ 56) (u : UInt64) (s : Int64) (hu : u.toBitVec = BitVec.ofNat 64 k) (hs : s.toBitVec = BitVec.ofNat 64 k) : (x.toUInt64 >>> u).toInt64 &&& 255 = (x >>> s) &&& 255 := by
  apply Int64.toBitVec_inj.mp
  have e1 : ((x.toUInt64 >>> u).toInt64).toBitVec = x.toBitVec >>> k := by
    show (x.toUInt64 >>> u).toBitVec = _
    rw [UInt64.toBitVec_shiftRight, hu]
    have : (BitVec.ofNat 64 k % 64) = BitVec.ofNat 64 k := by
      apply BitVec.eq_of_toNat_eq
      simp [BitVec.toNat_umod, BitVec.toNat_ofNat]
      omega
    rw [this]
    show x.toBitVec >>> (BitVec.ofNat 64 k) = _
    rw [BitVec.ushiftRight_eq', BitVec.toNat_ofNat]
    congr 1
    omega
  have e2 : (x >>> s).toBitVec = x.toBitVec.sshiftRight k := by
    rw [Int64.toBitVec_shiftRight, hs]
    have : (BitVec.ofNat 64 k).smod 64 = BitVec.ofNat 64 k := by
      have hk2 : k < 64 := by omega
      clear hu hs
      revert hk hk2
      have : ∀ j : Fin 64, (BitVec.ofNat 64 j.1).smod 64 = BitVec.ofNat 64 j.1 := by decide +kernel
      intro _ h
      exact this ⟨k, h⟩
    rw [this, BitVec.sshiftRight_eq', BitVec.toNat_ofNat]
    congr 1
    omega
  rw [Int64.toBitVec_and, Int64.toBitVec_and, e1, e2]
  exact bv_byte _ k hk
theorem byte_eq (v : Int) (s : Int) (h0 : 0 ≤ s) (hs : s ≤ 7) : land64 (ushr64 v (8 * s)) 255 = land64 (shr64 v (8 * s)) 255 := by
  unfold land64 ushr64 shr64
  rw [i64_of, i64_of]
  have e : (i64 255) = 255 := rfl
  rw [e]
  congr 1
  have hc : s = 0 ∨ s = 1 ∨ s = 2 ∨ s = 3 ∨ s = 4 ∨ s = 5 ∨ s = 6 ∨ s = 7 := by omega
  rcases hc with rfl | rfl | rfl | rfl | rfl | rfl | rfl | rfl
  · exact byte_k _ 0 (by decide) _ _ (by decide +kernel) (by decide +kernel)
  · exact byte_k _ 8 (by decide) _ _ (by decide +kernel) (by decide +kernel)
  · exact byte_k _ 16 (by decide) _ _ (by decide +kernel) (by decide +kernel)
  · exact byte_k _ 24 (by decide) _ _ (by decide +kernel) (by decide +kernel)
  · exact byte_k _ 32 (by decide) _ _ (by decide +kernel) (by decide +kernel)
  · exact byte_k _ 40 (by decide) _ _ (by decide +kernel) (by decide +kernel)
  · exact byte_k _ 48 (by decide) _ _ (by decide +kernel) (by decide +kernel)
  · exact byte_k _ 56 (by decide) _ _ (by decide +kernel) (by decide +kernel)
theorem byte_r (x : Int) : 0 ≤ land64 x 255 ∧ land64 x 255 ≤ 255 := by
  unfold land64
  have h : (i64 x &&& i64 255).toBitVec.toNat ≤ 255 := by
    rw [Int64.toBitVec_and, BitVec.toNat_and]
    exact Nat.and_le_right
  have e : (i64 x &&& i64 255).toInt = (i64 x &&& i64 255).toBitVec.toInt := rfl
  rw [e, BitVec.toInt_eq_toNat_of_lt (by omega)]
  omega
theorem tell17 {Q : (Int → Int) → Int → Int → Prop} {n v ww : Int} (h0 : 0 ≤ n) (hn : n ≤ 8) : ∀ (d : Nat) (wl : Int → Int) (j : Int), 0 ≤ j → j + d = n → (∀ wl' x, (∀ k, k < j ∨ n ≤ k → wl' k = wl k) → (∀ k, j ≤ k → k < n → wl' k = land64 (shr64 v (8 * (n - 1 - k))) 255) → IsFault n wl' x → Q wl' n x) → wp_X6_tell_17 Q (d + 1) wl n ww v j := by
  intro d
  induction d with
  | zero =>
    intro wl j hj he hQ
    rw [wp_X6_tell_17]
    exact ⟨fun _ => findWrong6 h0 hn (fun x hx => hQ wl x (fun _ _ => rfl) (fun k a b => absurd b (by omega)) hx), fun z => absurd z (by omega)⟩
  | succ d ih =>
    intro wl j hj he hQ
    rw [wp_X6_tell_17]
    have hb := byte_r (ushr64 v (8 * (n - 1 - j)))
    refine ⟨fun z => absurd z (by omega), fun _ => ⟨⟨by omega, by omega⟩, ⟨by omega, by omega⟩, ⟨by omega, by omega⟩, ⟨by omega, by omega⟩, fun x hx => ⟨hj, by omega, ⟨by omega, by omega⟩, ih _ (j + 1) (by omega) (by omega) (fun wl' y h1 h2 h3 => hQ wl' y (fun k hk => ?_) (fun k a b => ?_) h3)⟩⟩⟩
    · rw [h1 k (by omega), ups_n (by omega)]
    · by_cases e : k = j
      · rw [e, h1 j (by omega), ups_s, hx, byte_eq _ _ (by omega) (by omega)]
      · exact h2 k (by omega) b
theorem wish22 {Q : Int → Int → (Int → Int) → Prop} {n v : Int} (h0 : 0 ≤ n) (hn : n ≤ 8) : ∀ (d : Nat) (mw : Int → Int) (j : Int), 0 ≤ j → j + d = n → (∀ mw', (∀ k, k < j ∨ n ≤ k → mw' k = mw k) → (∀ k, j ≤ k → k < n → mw' k = land64 (shr64 v (8 * (n - 1 - k))) 255) → Q n n mw') → wp_X8_wish_22 Q (d + 1) n mw n v j := by
  intro d
  induction d with
  | zero =>
    intro mw j hj he hQ
    rw [wp_X8_wish_22]
    exact ⟨fun _ => hQ mw (fun _ _ => rfl) (fun k a b => absurd b (by omega)), fun z => absurd z (by omega)⟩
  | succ d ih =>
    intro mw j hj he hQ
    rw [wp_X8_wish_22]
    have hb := byte_r (shr64 v (8 * (n - 1 - j)))
    refine ⟨fun z => absurd z (by omega), fun _ => ⟨⟨by omega, by omega⟩, ⟨by omega, by omega⟩, ⟨by omega, by omega⟩, ⟨by omega, by omega⟩, fun x hx => ⟨hj, by omega, ⟨by omega, by omega⟩, ih _ (j + 1) (by omega) (by omega) (fun mw' h1 h2 => hQ mw' (fun k hk => ?_) (fun k a b => ?_))⟩⟩⟩
    · rw [h1 k (by omega), ups_n (by omega)]
    · by_cases e : k = j
      · rw [e, h1 j (by omega), ups_s, hx]
      · exact h2 k (by omega) b
theorem wish_ok {wl mw : Int → Int} {ws ww mn : Int} (hI : WI wl ws ww mn mw) (n v : Int) {K : Int → (Int → Int) → Int → Int → Int → Int → (Int → Int) → Prop} (hK : ∀ r wl' ws' ww' mn' mw', WI wl' ws' ww' mn' mw' → K r wl' ws' ww' r mn' mw') :
    wp_X7_wish (fun r wl' ws' ww' => wp_X8_wish (fun r2 mn' mw' => K r wl' ws' ww' r2 mn' mw') mn mw n v) wl ws ww n v := by
  by_cases hn : 1 ≤ n ∧ n ≤ 8
  · unfold wp_X7_wish wp_X6_tell
    refine ⟨fun z => absurd z (by omega), fun _ => ⟨fun _ x hx => ⟨n.toNat + 1, ?_⟩, fun z => absurd z (by omega)⟩⟩
    have ex : x = n := by omega
    subst ex
    refine tell17 (by omega) (by omega) x.toNat wl 0 (by omega) (by omega) (fun wl' y h1 h2 h3 => ?_)
    unfold wp_X8_wish
    refine in8 ?_
    rw [if_pos hn]
    refine ⟨fun _ => ⟨x.toNat + 1, wish22 (by omega) (by omega) x.toNat mw 0 (by omega) (by omega) (fun mw' g1 g2 => hK _ _ _ _ _ _ ?_)⟩, fun z => absurd z (by omega)⟩
    refine ⟨rfl, by omega, by omega, fun k a b => ?_, h3⟩
    by_cases hk : k < x
    · rw [h2 k a hk, g2 k a hk]
    · rw [h1 k (by omega), g1 k (by omega)]
      exact hI.2.2.2.1 k a b
  · have key8 : wp_X8_wish (fun r2 mn' mw' => K (-1) wl ws ww r2 mn' mw') mn mw n v := by
      unfold wp_X8_wish
      refine in8 ?_
      rw [if_neg hn]
      exact ⟨fun z => absurd rfl z, fun _ => hK _ _ _ _ _ _ hI⟩
    unfold wp_X7_wish wp_X7_wish_11
    exact ⟨fun _ => key8, fun h1 => ⟨fun h2 => absurd hn (by omega), fun _ => key8⟩⟩
