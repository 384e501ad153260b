/-! ===== the bits of a long ===== -/
def bt (x : Int) (i : Nat) : Bool := (i64 x).toBitVec.getLsbD i
theorem bt_ge {x : Int} {i : Nat} (h : 64 ≤ i) : bt x i = false := BitVec.getLsbD_of_ge _ _ h
theorem bt_ext {x y : Int} (hx : r64 x) (hy : r64 y) (h : ∀ i, i < 64 → bt x i = bt y i) : x = y := by
  have e : i64 x = i64 y := by
    apply Int64.toBitVec_inj.mp
    exact BitVec.eq_of_getLsbD_eq h
  have := congrArg Int64.toInt e
  rw [i64_t hx, i64_t hy] at this
  exact this
theorem bt_lor (x y : Int) (i : Nat) : bt (lor64 x y) i = (bt x i || bt y i) := by
  unfold bt lor64
  rw [i64_of, Int64.toBitVec_or, BitVec.getLsbD_or]
theorem bt_land (x y : Int) (i : Nat) : bt (land64 x y) i = (bt x i && bt y i) := by
  unfold bt land64
  rw [i64_of, Int64.toBitVec_and, BitVec.getLsbD_and]
theorem bt_lxor (x y : Int) (i : Nat) : bt (lxor64 x y) i = Bool.xor (bt x i) (bt y i) := by
  unfold bt lxor64
  rw [i64_of, Int64.toBitVec_xor, BitVec.getLsbD_xor]
theorem sh_amt : ∀ j : Fin 64, ((i32 ((j.1 : Nat) : Int)).toInt64 &&& 63).toBitVec.smod 64 = BitVec.ofNat 64 j.1 := by decide +kernel
theorem ush_amt : ∀ j : Fin 64, ((i32 ((j.1 : Nat) : Int)).toInt64.toUInt64 &&& Int64.toUInt64 63).toBitVec % 64 = BitVec.ofNat 64 j.1 := by decide +kernel
theorem bt_shl {x : Int} {k i : Nat} (hk : k < 64) : bt (shl64 x k) i = (decide (i < 64) && (!decide (i < k) && bt x (i - k))) := by
  unfold bt shl64
  rw [i64_of, Int64.toBitVec_shiftLeft, sh_amt ⟨k, hk⟩, BitVec.shiftLeft_eq', BitVec.toNat_ofNat, Nat.mod_eq_of_lt (by omega), BitVec.getLsbD_shiftLeft, Bool.and_assoc]
theorem bt_shr {x : Int} {k i : Nat} (hk : k < 64) (hi : k + i < 64) : bt (shr64 x k) i = bt x (k + i) := by
  unfold bt shr64
  rw [i64_of, Int64.toBitVec_shiftRight, sh_amt ⟨k, hk⟩, BitVec.sshiftRight_eq', BitVec.toNat_ofNat, Nat.mod_eq_of_lt (by omega), BitVec.getLsbD_sshiftRight]
  have h1 : ¬ 64 ≤ i := by omega
  simp [h1, hi]
theorem bt_ushr {x : Int} {k i : Nat} (hk : k < 64) : bt (ushr64 x k) i = bt x (k + i) := by
  unfold bt ushr64
  rw [i64_of]
  show ((i64 x).toUInt64 >>> ((i32 (k : Int)).toInt64.toUInt64 &&& Int64.toUInt64 63)).toBitVec.getLsbD i = _
  rw [UInt64.toBitVec_shiftRight, ush_amt ⟨k, hk⟩, BitVec.ushiftRight_eq', BitVec.toNat_ofNat, Nat.mod_eq_of_lt (by omega), BitVec.getLsbD_ushiftRight]
  rfl
theorem bt_0 (i : Nat) : bt 0 i = false := by
  unfold bt
  have : (i64 0).toBitVec = 0#64 := rfl
  rw [this, BitVec.getLsbD_zero]
theorem bt_1 (i : Nat) : bt 1 i = decide (i = 0) := by
  unfold bt
  have : (i64 1).toBitVec = 1#64 := rfl
  rw [this, BitVec.getLsbD_one]
  simp
theorem bt_n1 (i : Nat) : bt (-1) i = decide (i < 64) := by
  unfold bt
  have : (i64 (-1)).toBitVec = BitVec.allOnes 64 := by decide +kernel
  rw [this, BitVec.getLsbD_allOnes]
theorem bt_pow {k i : Nat} (hk : k < 64) : bt (shl64 1 k) i = decide (i = k) := by
  rw [bt_shl hk, bt_1]
  by_cases h : i = k
  · subst h; simp [hk]
  · by_cases h2 : i < k
    · simp [h, h2]
    · have : ¬ i - k = 0 := by omega
      simp [h, this]
theorem land_1 (x : Int) : land64 x 1 = if bt x 0 = true then 1 else 0 := by
  refine bt_ext (r_land64 _ _) (by split <;> exact ⟨by omega, by omega⟩) (fun i hi => ?_)
  rw [bt_land, bt_1]
  by_cases h : i = 0
  · subst h
    by_cases hb : bt x 0 = true
    · rw [if_pos hb, hb, bt_1]; rfl
    · rw [if_neg hb, bt_0]
      have : bt x 0 = false := by simpa using hb
      rw [this]; rfl
  · have e : decide (i = 0) = false := decide_eq_false h
    rw [e, Bool.and_false]
    split
    · rw [bt_1, e]
    · rw [bt_0]
theorem ubit {x : Int} {k : Nat} (hk : k < 64) : land64 (ushr64 x k) 1 = if bt x k = true then 1 else 0 := by
  rw [land_1, bt_ushr hk, Nat.add_zero]
theorem sbit {x : Int} {k : Nat} (hk : k < 64) : land64 (shr64 x k) 1 = if bt x k = true then 1 else 0 := by
  rw [land_1, bt_shr hk (by omega), Nat.add_zero]
