/-! ===== how many bits a long has ===== -/
theorem bt_nat {n : Nat} (h : n < 18446744073709551616) (i : Nat) : bt (n : Int) i = n.testBit i := by
  unfold bt i64
  have e : (Int64.ofInt (n : Int)).toBitVec = BitVec.ofNat 64 n := by
    rw [Int64.toBitVec_ofInt]
    exact BitVec.ofInt_natCast 64 n
  rw [e, BitVec.getLsbD_ofNat]
  by_cases hi : i < 64
  · rw [decide_eq_true hi, Bool.true_and]
  · rw [decide_eq_false hi, Bool.false_and]
    exact (Nat.testBit_lt_two_pow (Nat.lt_of_lt_of_le h (Nat.pow_le_pow_right (n := 2) (by omega) (show 64 ≤ i by omega)))).symm
theorem bt_pos {v : Int} (hv : r64 v) (h : bt v 63 = false) : 0 ≤ v := by
  unfold bt at h
  have e : (i64 v).toBitVec.toInt = v := i64_t hv
  have hm : (i64 v).toBitVec.msb = false := by rw [BitVec.msb_eq_getLsbD_last]; exact h
  rw [BitVec.toInt_eq_msb_cond, hm] at e
  rw [← e]
  exact Int.natCast_nonneg _
theorem land_nat {x y : Nat} (hx : x < 9223372036854775808) (hy : y < 9223372036854775808) : land64 (x : Int) (y : Int) = ((x &&& y : Nat) : Int) := by
  have hle : x &&& y ≤ x := Nat.and_le_left
  refine bt_ext (r_land64 _ _) ⟨by omega, by omega⟩ (fun i _ => ?_)
  rw [bt_land, bt_nat (by omega), bt_nat (by omega), bt_nat (by omega), Nat.testBit_and]
theorem ushr_nat {x k : Nat} (hx : x < 9223372036854775808) (hk : k < 64) : ushr64 (x : Int) (k : Int) = ((x / 2 ^ k : Nat) : Int) := by
  have hle : x / 2 ^ k ≤ x := Nat.div_le_self _ _
  have e : ∀ i, (x / 2 ^ k).testBit i = x.testBit (k + i) := fun i => by rw [Nat.testBit_div_two_pow, Nat.add_comm]
  generalize x / 2 ^ k = z at hle e ⊢
  refine bt_ext (r_ushr64 _ _) ⟨by omega, by omega⟩ (fun i _ => ?_)
  rw [bt_ushr hk, bt_nat (by omega), bt_nat (by omega), e]
theorem addw_nat {x y : Nat} (h : x + y < 9223372036854775808) : addw64 (x : Int) (y : Int) = ((x + y : Nat) : Int) := by
  unfold addw64 i64
  rw [← Int64.ofInt_add]
  exact i64_t (x := (x : Int) + (y : Int)) ⟨by omega, by omega⟩
theorem subw_nat {x y : Nat} (h : x < 9223372036854775808) (hy : y ≤ x) : subw64 (x : Int) (y : Int) = ((x - y : Nat) : Int) := by
  unfold subw64 i64
  rw [← Int64.ofInt_sub]
  have := i64_t (x := (x : Int) - (y : Int)) ⟨by omega, by omega⟩
  unfold i64 at this
  rw [this]
  omega
/-- bytes -/
theorem and_256 {a b c d : Nat} (hb : b < 256) (hd : d < 256) : (256 * a + b) &&& (256 * c + d) = 256 * (a &&& c) + (b &&& d) := by
  have hbd : b &&& d < 256 := Nat.lt_of_le_of_lt Nat.and_le_left hb
  apply Nat.eq_of_testBit_eq
  intro i
  have e : (256 : Nat) = 2 ^ 8 := rfl
  rw [Nat.testBit_and, e, Nat.testBit_two_pow_mul_add a hb, Nat.testBit_two_pow_mul_add c hd, Nat.testBit_two_pow_mul_add (a &&& c) hbd, Nat.testBit_and, Nat.testBit_and]
  split <;> rfl
def mk (m : Nat) : Nat → Nat
  | 0 => 0
  | n + 1 => 256 * mk m n + m
def popB (b : Nat) : Nat := (List.range 8).countP (fun i => b.testBit i)
def s1 (n x : Nat) : Nat := x - (x / 2 &&& mk 85 n)
def s2 (n x : Nat) : Nat := (x &&& mk 51 n) + (x / 4 &&& mk 51 n)
def s3 (n x : Nat) : Nat := (x + x / 16) &&& mk 15 n
def byt (n x : Nat) : Nat := match n with
  | 0 => 0
  | n + 1 => 256 * byt n (x / 256) + popB (x % 256)
theorem half_mask {n a b : Nat} (hb : b < 256) : ((256 * a + b) / 2 &&& mk 85 (n + 1)) = 256 * (a / 2 &&& mk 85 n) + (b / 2 &&& 85) := by
  have e : (256 * a + b) / 2 = 256 * (a / 2) + (128 * (a % 2) + b / 2) := by omega
  rw [e, mk, and_256 (by omega) (by omega)]
  have key : ∀ c : Fin 2, ∀ d : Fin 128, (128 * c.1 + d.1) &&& 85 = d.1 &&& 85 := by decide +kernel
  have k2 : (128 * (a % 2) + b / 2) &&& 85 = b / 2 &&& 85 := key ⟨a % 2, by omega⟩ ⟨b / 2, by omega⟩
  rw [k2]
theorem s1_s {n a b : Nat} (hb : b < 256) : s1 (n + 1) (256 * a + b) = 256 * s1 n a + (b - (b / 2 &&& 85)) := by
  unfold s1
  rw [half_mask hb]
  have h1 : a / 2 &&& mk 85 n ≤ a / 2 := Nat.and_le_left
  have h2 : b / 2 &&& 85 ≤ b / 2 := Nat.and_le_left
  omega
theorem s2_s {n a b : Nat} (hb : b < 256) : s2 (n + 1) (256 * a + b) = 256 * s2 n a + ((b &&& 51) + (b / 4 &&& 51)) := by
  unfold s2
  have e : (256 * a + b) / 4 = 256 * (a / 4) + (64 * (a % 4) + b / 4) := by omega
  rw [e, mk, and_256 hb (by omega), and_256 (by omega) (by omega)]
  have key : ∀ c : Fin 4, ∀ d : Fin 64, (64 * c.1 + d.1) &&& 51 = d.1 &&& 51 := by decide +kernel
  have k2 : (64 * (a % 4) + b / 4) &&& 51 = b / 4 &&& 51 := key ⟨a % 4, by omega⟩ ⟨b / 4, by omega⟩
  rw [k2]
  omega
/-- a number all of whose nibbles are at most 4 -/
def nib (n x : Nat) : Prop := match n with
  | 0 => True
  | n + 1 => nib n (x / 256) ∧ x % 256 / 16 ≤ 4 ∧ x % 16 ≤ 4
theorem s3_s {n a b : Nat} (hb : b / 16 ≤ 4) (hb2 : b % 16 ≤ 4) (ha : a % 16 ≤ 4) : s3 (n + 1) (256 * a + b) = 256 * s3 n a + (b % 16 + b / 16) := by
  unfold s3
  have key : ∀ z : Nat, z &&& 15 = z % 16 := fun z => Nat.and_two_pow_sub_one_eq_mod z 4
  have e : 256 * a + b + (256 * a + b) / 16 = 256 * (a + a / 16) + (16 * (a % 16) + (b + b / 16)) := by omega
  rw [e, mk, and_256 (by omega) (by omega), key]
  omega
theorem byte_all : ∀ b : Fin 256, (b.1 - (b.1 / 2 &&& 85) < 256) ∧ (((b.1 - (b.1 / 2 &&& 85)) &&& 51) + ((b.1 - (b.1 / 2 &&& 85)) / 4 &&& 51) < 256) ∧ (((b.1 - (b.1 / 2 &&& 85)) &&& 51) + ((b.1 - (b.1 / 2 &&& 85)) / 4 &&& 51)) / 16 ≤ 4 ∧ (((b.1 - (b.1 / 2 &&& 85)) &&& 51) + ((b.1 - (b.1 / 2 &&& 85)) / 4 &&& 51)) % 16 ≤ 4 ∧ (((b.1 - (b.1 / 2 &&& 85)) &&& 51) + ((b.1 - (b.1 / 2 &&& 85)) / 4 &&& 51)) % 16 + (((b.1 - (b.1 / 2 &&& 85)) &&& 51) + ((b.1 - (b.1 / 2 &&& 85)) / 4 &&& 51)) / 16 = popB b.1 := by decide +kernel
theorem swar : ∀ (n x : Nat), x < 256 ^ n → s3 n (s2 n (s1 n x)) = byt n x ∧ s2 n (s1 n x) % 16 ≤ 4 := by
  intro n
  induction n with
  | zero =>
    intro x hx
    have : x = 0 := by simpa using hx
    subst this
    decide
  | succ n ih =>
    intro x hx
    have hx2 : x / 256 < 256 ^ n := by
      rw [Nat.div_lt_iff_lt_mul (by omega), ← Nat.pow_succ]; exact hx
    obtain ⟨i1, i2⟩ := ih (x / 256) hx2
    have hb : x % 256 < 256 := Nat.mod_lt _ (by omega)
    obtain ⟨b1, b2, b3, b4, b5⟩ := byte_all ⟨x % 256, hb⟩
    have ex : x = 256 * (x / 256) + x % 256 := (Nat.div_add_mod x 256).symm
    have e1 : s1 (n + 1) x = 256 * s1 n (x / 256) + (x % 256 - (x % 256 / 2 &&& 85)) := by
      conv => lhs; rw [ex]
      exact s1_s hb
    rw [e1, s2_s b1, s3_s b3 b4 i2, i1, byt]
    refine ⟨by rw [← b5], ?_⟩
    have : (256 * s2 n (s1 n (x / 256)) + (((x % 256 - (x % 256 / 2 &&& 85)) &&& 51) + ((x % 256 - (x % 256 / 2 &&& 85)) / 4 &&& 51))) % 16 = (((x % 256 - (x % 256 / 2 &&& 85)) &&& 51) + ((x % 256 - (x % 256 / 2 &&& 85)) / 4 &&& 51)) % 16 := by omega
    rw [this]
    exact b4
theorem popB_le : ∀ b, popB b ≤ 8 := fun b => by
  unfold popB
  exact Nat.le_trans List.countP_le_length (by simp)
/-- the number of bits below 64 -/
def popN (x : Nat) : Nat → Nat
  | 0 => 0
  | n + 1 => popN x n + (if x.testBit n = true then 1 else 0)
theorem popN_byt {x : Nat} : ∀ n, popN x (n + 8) = popB (x % 256) + popN (x / 256) n := by
  intro n
  induction n with
  | zero =>
    have e : ∀ i, i < 8 → (x % 256).testBit i = x.testBit i := fun i hi => by
      have : (256 : Nat) = 2 ^ 8 := rfl
      rw [this, Nat.testBit_mod_two_pow, decide_eq_true hi, Bool.true_and]
    have e8 : List.range 8 = [0, 1, 2, 3, 4, 5, 6, 7] := by decide
    unfold popB
    rw [e8]
    simp only [popN, List.countP_cons, List.countP_nil]
    rw [e 0 (by omega), e 1 (by omega), e 2 (by omega), e 3 (by omega), e 4 (by omega), e 5 (by omega), e 6 (by omega), e 7 (by omega)]
    omega
  | succ n ih =>
    have e1 : popN x (n + 1 + 8) = popN x (n + 8) + (if x.testBit (n + 8) = true then 1 else 0) := rfl
    have e2 : popN (x / 256) (n + 1) = popN (x / 256) n + (if (x / 256).testBit n = true then 1 else 0) := rfl
    have e3 : (x / 256).testBit n = x.testBit (n + 8) := by
      have : (256 : Nat) = 2 ^ 8 := rfl
      rw [this, Nat.testBit_div_two_pow, Nat.add_comm]
    rw [e1, e2, ih, e3]
    omega
theorem low7 {x : Nat} (hx : x < 9223372036854775808) : land32 (l2iw (x : Int)) 127 = ((x % 128 : Nat) : Int) := by
  unfold land32 l2iw
  rw [i32_of]
  have e0 : (i32 127) = 127 := rfl
  rw [e0]
  have e : ((i64 (x : Int)).toInt32 &&& 127) = i32 ((x % 128 : Nat) : Int) := by
    apply Int32.toBitVec_inj.mp
    have e1 : (i64 (x : Int)).toBitVec = BitVec.ofNat 64 x := by
      unfold i64
      rw [Int64.toBitVec_ofInt]
      exact BitVec.ofInt_natCast 64 x
    have e2 : (i32 ((x % 128 : Nat) : Int)).toBitVec = BitVec.ofNat 32 (x % 128) := by
      unfold i32
      rw [Int32.toBitVec_ofInt]
      exact BitVec.ofInt_natCast 32 (x % 128)
    have e3 : (127 : Int32).toBitVec = BitVec.ofNat 32 (2 ^ 7 - 1) := rfl
    rw [Int32.toBitVec_and, e2, Int64.toBitVec_toInt32, e1, e3]
    apply BitVec.eq_of_getLsbD_eq
    intro i hi
    rw [BitVec.getLsbD_and, BitVec.getLsbD_signExtend, BitVec.getLsbD_ofNat, BitVec.getLsbD_ofNat, BitVec.getLsbD_ofNat, Nat.testBit_two_pow_sub_one]
    have h128 : (128 : Nat) = 2 ^ 7 := rfl
    rw [h128, Nat.testBit_mod_two_pow]
    have hi64 : i < 64 := by omega
    simp [hi, hi64, Bool.and_comm]
  rw [e]
  exact i32_t ⟨by omega, by omega⟩
theorem popN_le {x : Nat} : ∀ n, popN x n ≤ n := by
  intro n
  induction n with
  | zero => exact Nat.le_refl _
  | succ n ih => rw [popN]; split <;> omega
theorem div_fld {B lo R k : Nat} (h : B = lo + k * R) (hk : lo < k) : B / k = R := by rw [h, Nat.add_mul_div_left _ _ (by omega), Nat.div_eq_of_lt hk, Nat.zero_add]
theorem bitCountJ {Q : Int → Prop} {x : Nat} (hx : x < 9223372036854775808) (h : Q (popN x 64 : Nat)) : wp_J13_bitCount_95d88 Q x := by
  have m85 : mk 85 8 = 6148914691236517205 := by decide +kernel
  have m51 : mk 51 8 = 3689348814741910323 := by decide +kernel
  have m15 : mk 15 8 = 1085102592571150095 := by decide +kernel
  have hsw := (swar 8 x (by have : (256 : Nat) ^ 8 = 18446744073709551616 := by decide +kernel
                            omega)).1
  unfold s3 s2 s1 at hsw
  rw [m85, m51, m15] at hsw
  have a1 : x / 2 &&& 6148914691236517205 ≤ x / 2 := Nat.and_le_left
  intro x9 h9
  have e9 : x9 = ((x - (x / 2 &&& 6148914691236517205) : Nat) : Int) := by
    have u := ushr_nat (k := 1) hx (by omega)
    have c1 : ((1 : Nat) : Int) = 1 := rfl
    rw [c1, Nat.pow_one] at u
    rw [h9, u]
    have l := land_nat (x := x / 2) (y := 6148914691236517205) (by omega) (by omega)
    have c2 : ((6148914691236517205 : Nat) : Int) = 6148914691236517205 := rfl
    rw [c2] at l
    rw [l, subw_nat hx (by omega)]
  generalize hy9 : x - (x / 2 &&& 6148914691236517205) = y9 at e9 hsw
  have b9 : y9 < 9223372036854775808 := by omega
  intro x23 h23
  have a2 : y9 &&& 3689348814741910323 ≤ 3689348814741910323 := Nat.and_le_right
  have a3 : y9 / 4 &&& 3689348814741910323 ≤ 3689348814741910323 := Nat.and_le_right
  have e23 : x23 = (((y9 &&& 3689348814741910323) + (y9 / 4 &&& 3689348814741910323) : Nat) : Int) := by
    have u := ushr_nat (k := 2) b9 (by omega)
    have c1 : ((2 : Nat) : Int) = 2 := rfl
    have p : (2 : Nat) ^ 2 = 4 := rfl
    rw [c1, p] at u
    have l := land_nat (x := y9) (y := 3689348814741910323) b9 (by omega)
    have l2 := land_nat (x := y9 / 4) (y := 3689348814741910323) (by omega) (by omega)
    have c2 : ((3689348814741910323 : Nat) : Int) = 3689348814741910323 := rfl
    rw [c2] at l l2
    rw [h23, e9, u, l, l2, addw_nat (by omega)]
  generalize hy23 : (y9 &&& 3689348814741910323) + (y9 / 4 &&& 3689348814741910323) = y23 at e23 hsw
  have b23 : y23 ≤ 7378697629483820646 := by omega
  intro x33 h33
  have e33 : x33 = ((byt 8 x : Nat) : Int) := by
    have u := ushr_nat (x := y23) (k := 4) (by omega) (by omega)
    have c1 : ((4 : Nat) : Int) = 4 := rfl
    have p : (2 : Nat) ^ 4 = 16 := rfl
    rw [c1, p] at u
    have l := land_nat (x := y23 + y23 / 16) (y := 1085102592571150095) (by omega) (by omega)
    have c2 : ((1085102592571150095 : Nat) : Int) = 1085102592571150095 := rfl
    rw [c2] at l
    rw [h33, e23, u, addw_nat (by omega), l, hsw]
  -- the eight bytes
  have hp := fun y => popB_le y
  have hN : popN x 64 = popB (x % 256) + (popB (x / 256 % 256) + (popB (x / 256 / 256 % 256) + (popB (x / 256 / 256 / 256 % 256) + (popB (x / 256 / 256 / 256 / 256 % 256) + (popB (x / 256 / 256 / 256 / 256 / 256 % 256) + (popB (x / 256 / 256 / 256 / 256 / 256 / 256 % 256) + (popB (x / 256 / 256 / 256 / 256 / 256 / 256 / 256 % 256) + 0))))))) := by
    rw [popN_byt (x := x) 56, popN_byt 48, popN_byt 40, popN_byt 32, popN_byt 24, popN_byt 16, popN_byt 8, popN_byt 0, popN]
  have hB : byt 8 x = 256 * (256 * (256 * (256 * (256 * (256 * (256 * (256 * 0 + popB (x / 256 / 256 / 256 / 256 / 256 / 256 / 256 % 256)) + popB (x / 256 / 256 / 256 / 256 / 256 / 256 % 256)) + popB (x / 256 / 256 / 256 / 256 / 256 % 256)) + popB (x / 256 / 256 / 256 / 256 % 256)) + popB (x / 256 / 256 / 256 % 256)) + popB (x / 256 / 256 % 256)) + popB (x / 256 % 256)) + popB (x % 256) := rfl
  have q0 := hp (x % 256)
  have q1 := hp (x / 256 % 256)
  have q2 := hp (x / 256 / 256 % 256)
  have q3 := hp (x / 256 / 256 / 256 % 256)
  have q4 := hp (x / 256 / 256 / 256 / 256 % 256)
  have q5 := hp (x / 256 / 256 / 256 / 256 / 256 % 256)
  have q6 := hp (x / 256 / 256 / 256 / 256 / 256 / 256 % 256)
  have q7 := hp (x / 256 / 256 / 256 / 256 / 256 / 256 / 256 % 256)
  generalize popB (x % 256) = p0 at *
  generalize popB (x / 256 % 256) = p1 at *
  generalize popB (x / 256 / 256 % 256) = p2 at *
  generalize popB (x / 256 / 256 / 256 % 256) = p3 at *
  generalize popB (x / 256 / 256 / 256 / 256 % 256) = p4 at *
  generalize popB (x / 256 / 256 / 256 / 256 / 256 % 256) = p5 at *
  generalize popB (x / 256 / 256 / 256 / 256 / 256 / 256 % 256) = p6 at *
  generalize popB (x / 256 / 256 / 256 / 256 / 256 / 256 / 256 % 256) = p7 at *
  clear hsw hp e9 e23 h33 h23 h9 a1 a2 a3 b9 b23 hy9 hy23 m85 m51 m15
  generalize byt 8 x = B at *
  intro x40 h40
  have hB2 : B = p0 + 256 * p1 + 65536 * p2 + 16777216 * p3 + 4294967296 * p4 + 1099511627776 * p5 + 281474976710656 * p6 + 72057594037927936 * p7 := by omega
  have e40 : x40 = ((B + B / 256 : Nat) : Int) := by
    have u := ushr_nat (x := B) (k := 8) (by omega) (by omega)
    have c1 : ((8 : Nat) : Int) = 8 := rfl
    have p : (2 : Nat) ^ 8 = 256 := rfl
    rw [c1, p] at u
    rw [h40, e33, u, addw_nat (by omega)]
  have dB : B / 256 = p1 + 256 * p2 + 65536 * p3 + 16777216 * p4 + 4294967296 * p5 + 1099511627776 * p6 + 281474976710656 * p7 := div_fld (lo := p0) (by omega) (by omega)
  rw [dB] at e40
  have hC : B + (p1 + 256 * p2 + 65536 * p3 + 16777216 * p4 + 4294967296 * p5 + 1099511627776 * p6 + 281474976710656 * p7) = (p0 + p1) + 256 * (p1 + p2) + 65536 * (p2 + p3) + 16777216 * (p3 + p4) + 4294967296 * (p4 + p5) + 1099511627776 * (p5 + p6) + 281474976710656 * (p6 + p7) + 72057594037927936 * p7 := by omega
  generalize B + (p1 + 256 * p2 + 65536 * p3 + 16777216 * p4 + 4294967296 * p5 + 1099511627776 * p6 + 281474976710656 * p7) = C at *
  clear dB hB2 hB
  intro x47 h47
  have e47 : x47 = ((C + C / 65536 : Nat) : Int) := by
    have u := ushr_nat (x := C) (k := 16) (by omega) (by omega)
    have c1 : ((16 : Nat) : Int) = 16 := rfl
    have p : (2 : Nat) ^ 16 = 65536 := rfl
    rw [c1, p] at u
    rw [h47, e40, u, addw_nat (by omega)]
  have dC : C / 65536 = (p2 + p3) + 256 * (p3 + p4) + 65536 * (p4 + p5) + 16777216 * (p5 + p6) + 4294967296 * (p6 + p7) + 1099511627776 * p7 := div_fld (lo := (p0 + p1) + 256 * (p1 + p2)) (by omega) (by omega)
  rw [dC] at e47
  have hD : C + ((p2 + p3) + 256 * (p3 + p4) + 65536 * (p4 + p5) + 16777216 * (p5 + p6) + 4294967296 * (p6 + p7) + 1099511627776 * p7) = (p0 + p1 + p2 + p3) + 256 * (p1 + p2 + p3 + p4) + 65536 * (p2 + p3 + p4 + p5) + 16777216 * (p3 + p4 + p5 + p6) + 4294967296 * (p4 + p5 + p6 + p7) + 1099511627776 * (p5 + p6 + p7) + 281474976710656 * (p6 + p7) + 72057594037927936 * p7 := by omega
  generalize C + ((p2 + p3) + 256 * (p3 + p4) + 65536 * (p4 + p5) + 16777216 * (p5 + p6) + 4294967296 * (p6 + p7) + 1099511627776 * p7) = D at *
  clear dC hC
  intro x54 h54
  have e54 : x54 = ((D + D / 4294967296 : Nat) : Int) := by
    have u := ushr_nat (x := D) (k := 32) (by omega) (by omega)
    have c1 : ((32 : Nat) : Int) = 32 := rfl
    have p : (2 : Nat) ^ 32 = 4294967296 := rfl
    rw [c1, p] at u
    rw [h54, e47, u, addw_nat (by omega)]
  have dD : D / 4294967296 = (p4 + p5 + p6 + p7) + 256 * (p5 + p6 + p7) + 65536 * (p6 + p7) + 16777216 * p7 := div_fld (lo := (p0 + p1 + p2 + p3) + 256 * (p1 + p2 + p3 + p4) + 65536 * (p2 + p3 + p4 + p5) + 16777216 * (p3 + p4 + p5 + p6)) (by omega) (by omega)
  rw [dD] at e54
  have hE : D + ((p4 + p5 + p6 + p7) + 256 * (p5 + p6 + p7) + 65536 * (p6 + p7) + 16777216 * p7) = popN x 64 + 128 * (2 * (p1 + p2 + p3 + p4 + (p5 + p6 + p7)) + 512 * (p2 + p3 + p4 + p5 + (p6 + p7)) + 131072 * (p3 + p4 + p5 + p6 + p7) + 33554432 * (p4 + p5 + p6 + p7) + 8589934592 * (p5 + p6 + p7) + 2199023255552 * (p6 + p7) + 562949953421312 * p7) := by omega
  rw [e54, low7 (by omega)]
  have : (D + ((p4 + p5 + p6 + p7) + 256 * (p5 + p6 + p7) + 65536 * (p6 + p7) + 16777216 * p7)) % 128 = popN x 64 := by
    rw [hE, Nat.add_mul_mod_self_left]
    exact Nat.mod_eq_of_lt (Nat.lt_of_le_of_lt (popN_le (x := x) 64) (by decide))
  rw [this]
  exact h
