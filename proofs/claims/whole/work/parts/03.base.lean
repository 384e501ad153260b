/-! ===== the words that all methods share ===== -/
def TT : List Cond := lw_tbl.filter goodWord
theorem TT_good : ∀ w ∈ TT, goodWord w = true := fun w h => (List.mem_filter.mp h).2
theorem TT_in : ∀ w ∈ TT, w ∈ lw_tbl := fun w h => (List.mem_filter.mp h).1
theorem gdn {c0 : Cond} {pre : List Cond} {cy : Cond} (hp : ∀ w ∈ pre, w ∈ TT) (hc : cy ∈ TT) : GoodIn (c0 :: TT) (pre ++ cy :: TT) := by
  intro w hw
  have hm : w ∈ TT := by
    rcases List.mem_append.mp hw with h | h
    · exact hp w h
    · rcases List.mem_cons.mp h with h | h
      · rw [h]; exact hc
      · exact h
  exact ⟨List.mem_cons_of_mem _ hm, good_of_word (TT_good w hm)⟩
theorem gdc {c0 cy : Cond} (hc : cy ∈ TT) : GoodIn (c0 :: TT) (cy :: TT) := gdn (pre := []) (fun _ h => absurd h List.not_mem_nil) hc
/-! ===== numbers ===== -/
def i32 (x : Int) : Int32 := Int32.ofInt x
def i64 (x : Int) : Int64 := Int64.ofInt x
def r32 (x : Int) : Prop := -2147483648 ≤ x ∧ x < 2147483648
def r64 (x : Int) : Prop := -9223372036854775808 ≤ x ∧ x < 9223372036854775808
theorem i32_t {x : Int} (h : r32 x) : (i32 x).toInt = x := Int32.toInt_ofInt_of_le (by simpa using h.1) (by simpa using h.2)
theorem i64_t {x : Int} (h : r64 x) : (i64 x).toInt = x := Int64.toInt_ofInt_of_le (by simpa using h.1) (by simpa using h.2)
theorem r32_t (x : Int32) : r32 x.toInt := ⟨by have := x.le_toInt; simpa using this, by have := x.toInt_lt; simpa using this⟩
theorem r64_t (x : Int64) : r64 x.toInt := ⟨by have := x.le_toInt; simpa using this, by have := x.toInt_lt; simpa using this⟩
theorem i32_of (x : Int32) : i32 x.toInt = x := Int32.ofInt_toInt x
theorem i64_of (x : Int64) : i64 x.toInt = x := Int64.ofInt_toInt x
theorem i32_eq {x y : Int} (hx : r32 x) (hy : r32 y) : i32 x = i32 y ↔ x = y := ⟨fun h => by rw [← i32_t hx, ← i32_t hy, h], fun h => by rw [h]⟩
theorem i64_eq {x y : Int} (hx : r64 x) (hy : r64 y) : i64 x = i64 y ↔ x = y := ⟨fun h => by rw [← i64_t hx, ← i64_t hy, h], fun h => by rw [h]⟩
theorem i32_lt {x y : Int} (hx : r32 x) (hy : r32 y) : i32 x < i32 y ↔ x < y := by rw [Int32.lt_iff_toInt_lt, i32_t hx, i32_t hy]
theorem i32_le {x y : Int} (hx : r32 x) (hy : r32 y) : i32 x ≤ i32 y ↔ x ≤ y := by rw [Int32.le_iff_toInt_le, i32_t hx, i32_t hy]
theorem i64_lt {x y : Int} (hx : r64 x) (hy : r64 y) : i64 x < i64 y ↔ x < y := by rw [Int64.lt_iff_toInt_lt, i64_t hx, i64_t hy]
theorem i64_le {x y : Int} (hx : r64 x) (hy : r64 y) : i64 x ≤ i64 y ↔ x ≤ y := by rw [Int64.le_iff_toInt_le, i64_t hx, i64_t hy]
theorem r32_0 : r32 0 := ⟨by decide, by decide⟩
theorem r64_0 : r64 0 := ⟨by decide, by decide⟩
theorem i32_0 : i32 0 = 0 := rfl
theorem i64_0 : i64 0 = 0 := rfl
theorem r32_64 {x : Int} (h : r32 x) : r64 x := ⟨by have := h.1; omega, by have := h.2; omega⟩
theorem i32_add (x y : Int) : i32 x + i32 y = i32 (x + y) := (Int32.ofInt_add x y).symm
theorem i32_sub (x y : Int) : i32 x - i32 y = i32 (x - y) := (Int32.ofInt_sub x y).symm
theorem i32_mul (x y : Int) : i32 x * i32 y = i32 (x * y) := (Int32.ofInt_mul x y).symm
theorem i32_neg (x : Int) : -i32 x = i32 (-x) := (Int32.ofInt_neg x).symm
theorem i64_add (x y : Int) : i64 x + i64 y = i64 (x + y) := (Int64.ofInt_add x y).symm
theorem i64_sub (x y : Int) : i64 x - i64 y = i64 (x - y) := (Int64.ofInt_sub x y).symm
theorem i64_mul (x y : Int) : i64 x * i64 y = i64 (x * y) := (Int64.ofInt_mul x y).symm
theorem i32_div {x y : Int} (hx : r32 x) (hy : r32 y) : i32 x / i32 y = i32 (x.tdiv y) := by
  apply Int32.toInt_inj.mp
  rw [Int32.toInt_div, i32_t hx, i32_t hy, i32, Int32.toInt_ofInt]
theorem i64_div {x y : Int} (hx : r64 x) (hy : r64 y) : i64 x / i64 y = i64 (x.tdiv y) := by
  apply Int64.toInt_inj.mp
  rw [Int64.toInt_div, i64_t hx, i64_t hy, i64, Int64.toInt_ofInt]
theorem tmod_eq (x y : Int) : x - x.tdiv y * y = x.tmod y := by
  have := Int.tmod_add_mul_tdiv x y
  rw [Int.mul_comm] at this
  omega
theorem i32_rem {x y : Int} (hx : r32 x) (hy : r32 y) : i32 x - i32 x / i32 y * i32 y = i32 (x.tmod y) := by rw [i32_div hx hy, i32_mul, i32_sub, tmod_eq]
theorem i64_rem {x y : Int} (hx : r64 x) (hy : r64 y) : i64 x - i64 x / i64 y * i64 y = i64 (x.tmod y) := by rw [i64_div hx hy, i64_mul, i64_sub, tmod_eq]
theorem r32_tmod {x y : Int} (hx : r32 x) (hy : r32 y) (h0 : ¬ y = 0) : r32 (x.tmod y) := by
  have h1 := Int.natAbs_tmod x y
  have h2 : x.natAbs % y.natAbs ≤ x.natAbs := Nat.mod_le _ _
  have h3 : x.natAbs % y.natAbs < y.natAbs := Nat.mod_lt _ (by omega)
  obtain ⟨a, b⟩ := hx
  obtain ⟨c, d⟩ := hy
  constructor <;> omega
theorem r64_tmod {x y : Int} (hx : r64 x) (hy : r64 y) (h0 : ¬ y = 0) : r64 (x.tmod y) := by
  have h1 := Int.natAbs_tmod x y
  have h2 : x.natAbs % y.natAbs ≤ x.natAbs := Nat.mod_le _ _
  have h3 : x.natAbs % y.natAbs < y.natAbs := Nat.mod_lt _ (by omega)
  obtain ⟨a, b⟩ := hx
  obtain ⟨c, d⟩ := hy
  constructor <;> omega
theorem i32_l {x : Int} (h : r32 x) : (i32 x).toInt64 = i64 x := by
  apply Int64.toInt_inj.mp
  rw [Int32.toInt_toInt64, i32_t h, i64_t (r32_64 h)]
theorem i64_i (x : Int) : (i64 x).toInt32 = i32 x := by
  first | exact Int64.toInt32_ofInt x | exact Int64.toInt32_ofInt | (apply Int32.toInt_inj.mp; simp [i64, i32])
theorem i32_8 {x : Int} (h1 : -128 ≤ x) (h2 : x < 128) : (Int8.ofInt x).toInt32 = i32 x := by
  apply Int32.toInt_inj.mp
  rw [Int8.toInt_toInt32, i32_t ⟨by omega, by omega⟩]
  exact Int8.toInt_ofInt_of_le (by simpa using h1) (by simpa using h2)
theorem i32_16 {x : Int} (h1 : -32768 ≤ x) (h2 : x < 32768) : (Int16.ofInt x).toInt32 = i32 x := by
  apply Int32.toInt_inj.mp
  rw [Int16.toInt_toInt32, i32_t ⟨by omega, by omega⟩]
  exact Int16.toInt_ofInt_of_le (by simpa using h1) (by simpa using h2)
def land64 (x y : Int) : Int := (i64 x &&& i64 y).toInt
def lor64 (x y : Int) : Int := (i64 x ||| i64 y).toInt
def lxor64 (x y : Int) : Int := (i64 x ^^^ i64 y).toInt
def land32 (x y : Int) : Int := (i32 x &&& i32 y).toInt
def lor32 (x y : Int) : Int := (i32 x ||| i32 y).toInt
def shl32 (x y : Int) : Int := (i32 x <<< (i32 y &&& 31)).toInt
def shr32 (x y : Int) : Int := (i32 x >>> (i32 y &&& 31)).toInt
def shl64 (x y : Int) : Int := (i64 x <<< ((i32 y).toInt64 &&& 63)).toInt
def shr64 (x y : Int) : Int := (i64 x >>> ((i32 y).toInt64 &&& 63)).toInt
def ushr64 (x y : Int) : Int := ((i64 x).toUInt64 >>> ((i32 y).toInt64.toUInt64 &&& Int64.toUInt64 63)).toInt64.toInt
theorem r32_lit (x : Int) (h : -2147483648 ≤ x ∧ x < 2147483648) : r32 x := h
theorem r64_lit (x : Int) (h : -9223372036854775808 ≤ x ∧ x < 9223372036854775808) : r64 x := h
theorem r32_tdiv {x y : Int} (hx : r32 x) (hy : 0 < y) : r32 (x.tdiv y) := by
  have h1 : (x.tdiv y).natAbs = x.natAbs / y.natAbs := Int.natAbs_tdiv x y
  have h2 : x.natAbs / y.natAbs ≤ x.natAbs := Nat.div_le_self _ _
  rw [← h1] at h2
  obtain ⟨a, b⟩ := hx
  by_cases hp : 0 ≤ x
  · have := Int.tdiv_nonneg hp (by omega : 0 ≤ y)
    constructor <;> omega
  · constructor
    · omega
    · have h3 : (-x).tdiv y = -(x.tdiv y) := Int.neg_tdiv x y
      have := Int.tdiv_nonneg (by omega : 0 ≤ -x) (by omega : 0 ≤ y)
      omega
theorem r64_tdiv {x y : Int} (hx : r64 x) (hy : 0 < y) : r64 (x.tdiv y) := by
  have h1 : (x.tdiv y).natAbs = x.natAbs / y.natAbs := Int.natAbs_tdiv x y
  have h2 : x.natAbs / y.natAbs ≤ x.natAbs := Nat.div_le_self _ _
  rw [← h1] at h2
  obtain ⟨a, b⟩ := hx
  by_cases hp : 0 ≤ x
  · have := Int.tdiv_nonneg hp (by omega : 0 ≤ y)
    constructor <;> omega
  · constructor
    · omega
    · have h3 : (-x).tdiv y = -(x.tdiv y) := Int.neg_tdiv x y
      have := Int.tdiv_nonneg (by omega : 0 ≤ -x) (by omega : 0 ≤ y)
      omega
theorem ne_of_pos {y : Int} (h : 0 < y) : ¬ y = 0 := by omega
theorem r_land64 (x y : Int) : r64 (land64 x y) := r64_t _
theorem r_lor64 (x y : Int) : r64 (lor64 x y) := r64_t _
theorem r_lxor64 (x y : Int) : r64 (lxor64 x y) := r64_t _
theorem r_land32 (x y : Int) : r32 (land32 x y) := r32_t _
theorem r_lor32 (x y : Int) : r32 (lor32 x y) := r32_t _
theorem r_shl32 (x y : Int) : r32 (shl32 x y) := r32_t _
theorem r_shr32 (x y : Int) : r32 (shr32 x y) := r32_t _
theorem r_shl64 (x y : Int) : r64 (shl64 x y) := r64_t _
theorem r_shr64 (x y : Int) : r64 (shr64 x y) := r64_t _
theorem r_ushr64 (x y : Int) : r64 (ushr64 x y) := r64_t _
def addw64 (x y : Int) : Int := (i64 x + i64 y).toInt
def subw64 (x y : Int) : Int := (i64 x - i64 y).toInt
def l2iw (x : Int) : Int := (i64 x).toInt32.toInt
theorem r_addw64 (x y : Int) : r64 (addw64 x y) := r64_t _
theorem r_subw64 (x y : Int) : r64 (subw64 x y) := r64_t _
theorem r_l2iw (x : Int) : r32 (l2iw x) := r32_t _
theorem r64_emod {x y : Int} (hy : r64 y) (h : 0 < y) : r64 (x % y) := by
  have h1 := Int.emod_nonneg x (by omega : y ≠ 0)
  have h2 := Int.emod_lt_of_pos x h
  obtain ⟨a, b⟩ := hy
  constructor <;> omega
/-- a row with one place changed -/
def ups (f : Int → Int) (i v : Int) : Int → Int := fun j => if j = i then v else f j
def rr32 (f : Int → Int) : Prop := ∀ j, r32 (f j)
def rr64 (f : Int → Int) : Prop := ∀ j, r64 (f j)
theorem rr32_u {f : Int → Int} {i v : Int} (h : rr32 f) (hv : r32 v) : rr32 (ups f i v) := fun j => by unfold ups; split <;> first | exact hv | exact h j
theorem rr64_u {f : Int → Int} {i v : Int} (h : rr64 f) (hv : r64 v) : rr64 (ups f i v) := fun j => by unfold ups; split <;> first | exact hv | exact h j
theorem ups_s {f : Int → Int} {i v : Int} : ups f i v i = v := if_pos rfl
theorem ups_n {f : Int → Int} {i v j : Int} (h : j ≠ i) : ups f i v j = f j := if_neg h
def aI (cI : ClassId) (n : Nat) (f : Int → Int) : va_E := .inl (cI, n, .inl (fun j => i32 (f j)))
def aL (cJ : ClassId) (n : Nat) (f : Int → Int) : va_E := .inl (cJ, n, .inr (.inl (fun j => i64 (f j))))
theorem idx_in {x : Int} {n : Nat} (h0 : 0 ≤ x) (h1 : x < n) (hn : n < 2147483648) : vp_in (i32 x) n := vp_in_iff.mpr (by rw [i32_t ⟨by omega, by omega⟩]; exact ⟨h0, h1⟩)
theorem idx_c {x : Int} (h0 : 0 ≤ x) (h1 : x < 2147483648) : (((i32 x).toNatClampNeg : Nat) : Int) = x := by
  have h := i32_t (x := x) ⟨by omega, h1⟩
  rw [Int32.toNatClampNeg, h]
  omega
/-! ===== the judgement ===== -/
abbrev Cx : Type := Program × Launch × Env × Room × State × MethodId × Array Value × List Frame × Method × Code × va_G × (ClassId × ClassId) × Nat × (Nat → Prop) × Nat × (State → Prop)
abbrev Cx.p (X : Cx) : Program := X.1
abbrev Cx.l (X : Cx) : Launch := X.2.1
abbrev Cx.e (X : Cx) : Env := X.2.2.1
abbrev Cx.R (X : Cx) : Room := X.2.2.2.1
abbrev Cx.s (X : Cx) : State := X.2.2.2.2.1
abbrev Cx.m (X : Cx) : MethodId := X.2.2.2.2.2.1
abbrev Cx.args (X : Cx) : Array Value := X.2.2.2.2.2.2.1
abbrev Cx.below (X : Cx) : List Frame := X.2.2.2.2.2.2.2.1
abbrev Cx.meth (X : Cx) : Method := X.2.2.2.2.2.2.2.2.1
abbrev Cx.c (X : Cx) : Code := X.2.2.2.2.2.2.2.2.2.1
abbrev Cx.D (X : Cx) : va_G := X.2.2.2.2.2.2.2.2.2.2.1
abbrev Cx.cI (X : Cx) : ClassId := X.2.2.2.2.2.2.2.2.2.2.2.1.1
abbrev Cx.cJ (X : Cx) : ClassId := X.2.2.2.2.2.2.2.2.2.2.2.1.2
abbrev Cx.zt (X : Cx) : Nat := X.2.2.2.2.2.2.2.2.2.2.2.2.1
abbrev Cx.A (X : Cx) : Nat → Prop := X.2.2.2.2.2.2.2.2.2.2.2.2.2.1
abbrev Cx.nL (X : Cx) : Nat := X.2.2.2.2.2.2.2.2.2.2.2.2.2.2.1
abbrev Cx.F (X : Cx) : State → Prop := X.2.2.2.2.2.2.2.2.2.2.2.2.2.2.2
abbrev tys2 (cI cJ : ClassId) : List (ClassId × FieldType) := [(cI, .int), (cJ, .long)]
def prm : List Int := [59, 53, 47, 43, 41, 37, 31, 29, 23, 19, 17, 13, 11, 7, 5, 3, 2]
def prmF (i : Int) : Int := prm.getD i.toNat 0
theorem zb_n {v : Int} (h : v = 0 ∨ v = 1) : narrow .boolean (.int (i32 v)) = .int (i32 v) := by rcases h with h | h <;> subst h <;> rfl
theorem zb_f {v : Int} (h : v = 0 ∨ v = 1) : fits .boolean (.int (i32 v)) = true := by rcases h with h | h <;> subst h <;> rfl
theorem prmF_r : rr32 prmF := by
  intro j
  unfold prmF
  by_cases h : j.toNat < 17
  · have hh : ∀ i : Fin 17, -2147483648 ≤ prm.getD i.1 0 ∧ prm.getD i.1 0 < 2147483648 := by decide +kernel
    exact hh ⟨j.toNat, h⟩
  · have e : prm.getD j.toNat 0 = 0 := by
      rw [List.getD_eq_getElem?_getD, List.getElem?_eq_none (show prm.length ≤ j.toNat by show 17 ≤ j.toNat; omega)]; rfl
    rw [e]; exact r32_0
/-- the one static row that the class reads -/
def Zp (zt : Nat) (A : Nat → Prop) (U : State) (H : Heap) : Prop := va_Z "SingleShares$Finder" "PRIMES_FALLING" "[I" (.ref zt) A U H ∧ va_T .int zt 17 (fun j => .int (i32 (prmF j))) A U H
/-- calls of a nest mate's private methods: their words aren't kept by every step, so they ride with the state -/
def NNl : List (String × Nat × MethodName × String) := [(RX7, 18, yX3_init, RX7), (RX7, 25, yX2_init, RX7), (RX7, 39, yX6_init, RX7), (RX7, 46, yX0_init, RX7), (RX7, 53, yX5_init, RX7), (RX2, 97, yX7_inverse, RX7), (RX2, 117, yX7_commonDivisor, RX7), (RX2, 141, yX7_roundedUp, RX7), (RX3, 42, yX7_roundedUp, RX7), (RX3, 57, yX7_commonDivisor, RX7), (RX3, 68, yX7_inverse, RX7), (RX5, 33, yX7_commonDivisor, RX7)]
def Nn (U : State) : Prop := ∀ q ∈ NNl, va_Nw (.methodLinkNest q.1 q.2.1 q.2.2.1 q.2.2.2) U
theorem Nn.warm {s U : State} (hW : s.WarmedH U.vm) (h : Nn s) : Nn U := fun q hq => va_Nw.warmM hW (h q hq)
theorem Nn.same {s U : State} (hW : s.vm = U.vm) (h : Nn s) : Nn U := fun q hq => va_Nw.same rfl hW (h q hq)
def ctQ (D : va_G) (cI cJ : ClassId) (A : Nat → Prop) (Q : Option Value → va_W → Prop) : Array Value → State → Outcome → State → Prop := fun _ st oc t =>
  (∃ (rv : Option Value) (w1 : va_W), oc = .returned rv ∧ Q rv w1 ∧ va_P D vwCl w1 t.heap ∧ va_K D vwCl (tys2 cI cJ) t ∧ va_D A w1) ∧ va_F A st t
def Wat (X : Cx) (k n pc : Nat) (lv : List (Nat × Value)) (st : List Value) (ws : va_W) : Prop :=
  ∀ (ls : Array Slot) (H : Heap) (locs : List Loc), lv_has ls X.nL lv → va_P X.D vwCl ws H → va_D X.A ws → va_S X.A X.s.heap H locs →
    W X.p X.l X.e X.R X.s X.m X.args X.below X.meth X.c H locs k n X.F (F0 X.m pc ls st)
/-- the end of a method: what it owes -/
abbrev FQ (X : Cx) (mc ms : Nat) (Q : Option Value → va_W → Prop) : Prop := X.F = MQ X.below (ctQ X.D X.cI X.cJ X.A Q) X.args X.s mc ms X.A
def Gd (X : Cx) (cc : ByteArray) (own : String) (ret : Option FieldType) (nL : Nat) : Prop :=
  X.p.tables.exec = Jvm.exec ∧ X.c.code = cc ∧ X.meth.sig.returnType = ret ∧ X.c.maxLocals = X.nL ∧ X.s.vm.findClass own = some X.m.cls ∧ (∀ w ∈ TT, w.before X.args X.s = true) ∧ X.meth.locks = false ∧
  va_K X.D vwCl (tys2 X.cI X.cJ) X.s ∧ (∀ q : Nat, X.s.heap.size ≤ q → X.A q) ∧ Zp X.zt X.A X.s X.s.heap ∧ X.nL = nL ∧ Nn X.s
section QR
variable {X : Cx} {cc : ByteArray} {own : String} {ret : Option FieldType} {nL k n pc : Nat} {lv : List (Nat × Value)} {st : List Value} {ws : va_W}
theorem Gd.x (g : Gd X cc own ret nL) : X.p.tables.exec = Jvm.exec := g.1
theorem Gd.b (g : Gd X cc own ret nL) : X.c.code = cc := g.2.1
theorem Gd.r (g : Gd X cc own ret nL) : X.meth.sig.returnType = ret := g.2.2.1
theorem Gd.ml (g : Gd X cc own ret nL) : X.c.maxLocals = X.nL := g.2.2.2.1
theorem Gd.ow (g : Gd X cc own ret nL) : X.s.vm.findClass own = some X.m.cls := g.2.2.2.2.1
theorem Gd.ts (g : Gd X cc own ret nL) : ∀ w ∈ TT, w.before X.args X.s = true := g.2.2.2.2.2.1
theorem Gd.lk (g : Gd X cc own ret nL) : X.meth.locks = false := g.2.2.2.2.2.2.1
theorem Gd.K (g : Gd X cc own ret nL) : va_K X.D vwCl (tys2 X.cI X.cJ) X.s := g.2.2.2.2.2.2.2.1
theorem Gd.A (g : Gd X cc own ret nL) : ∀ q : Nat, X.s.heap.size ≤ q → X.A q := g.2.2.2.2.2.2.2.2.1
theorem Gd.Z (g : Gd X cc own ret nL) : Zp X.zt X.A X.s X.s.heap := g.2.2.2.2.2.2.2.2.2.1
theorem Gd.nn (g : Gd X cc own ret nL) : X.nL = nL := g.2.2.2.2.2.2.2.2.2.2.1
theorem Gd.N (g : Gd X cc own ret nL) : Nn X.s := g.2.2.2.2.2.2.2.2.2.2.2
/-- fewer locals, fewer cells, in another order -/
theorem q_lv (ks : List Nat) {lv' : List (Nat × Value)} (h : lv_pick lv ks = lv') (K : Wat X k n pc lv' st ws) : Wat X k n pc lv st ws := fun ls H locs hl hP hD hS => K ls H locs (lv_sub hl ks h) hP hD hS
theorem q_ws (is : List Nat) {ws' : va_W} (hn : va_nd is = true) (h1 : is.filterMap (fun i => ws[i]?) = ws') (h2 : is.map (fun i => ws[i]?) = ws'.map some) (K : Wat X k n pc lv st ws') : Wat X k n pc lv st ws := fun ls H locs hl hP hD hS => K ls H locs hl (hP.sub is h1) (hD.sub is hn h2) hS
theorem q_same {lv' : List (Nat × Value)} {st' : List Value} {ws' : va_W} (h1 : lv = lv') (h2 : st = st') (h3 : ws = ws') (K : Wat X k n pc lv' st' ws') : Wat X k n pc lv st ws := by subst h1; subst h2; subst h3; exact K

theorem q_iconst (g : Gd X cc own ret nL) (v : Int) (hd : decode cc pc = .ok (.iconst v, 1)) (K : Wat X k n (pc + 1) lv (.int (i32 v) :: st) ws) : Wat X k n pc lv st ws := fun ls H locs hl hP hD hS => lv_iconst g.x g.b hd rfl (K ls H locs hl hP hD hS)
theorem q_bipush (g : Gd X cc own ret nL) (v : Int) (h1 : -128 ≤ v) (h2 : v < 128) (hd : decode cc pc = .ok (.bipush v, 2)) (K : Wat X k n (pc + 2) lv (.int (i32 v) :: st) ws) : Wat X k n pc lv st ws := fun ls H locs hl hP hD hS => lv_bipush g.x g.b hd (i32_8 h1 h2) (K ls H locs hl hP hD hS)
theorem q_sipush (g : Gd X cc own ret nL) (v : Int) (h1 : -32768 ≤ v) (h2 : v < 32768) (hd : decode cc pc = .ok (.sipush v, 3)) (K : Wat X k n (pc + 3) lv (.int (i32 v) :: st) ws) : Wat X k n pc lv st ws := fun ls H locs hl hP hD hS => lv_sipush g.x g.b hd (i32_16 h1 h2) (K ls H locs hl hP hD hS)
theorem q_lconst (g : Gd X cc own ret nL) (v : Fin 2) (w : Int) (hw : Int64.ofNat (v : Nat) = i64 w) (hd : decode cc pc = .ok (.lconst v, 1)) (K : Wat X k n (pc + 1) lv (.long (i64 w) :: st) ws) : Wat X k n pc lv st ws := fun ls H locs hl hP hD hS => lv_lconst g.x g.b hd hw (K ls H locs hl hP hD hS)
theorem q_ldc (g : Gd X cc own ret nL) (ix : Nat) (v : Int) {w : Int32} (hw : w = i32 v) (hc : Cond.constant own ix w ∈ TT) (hd : decode cc pc = .ok (.ldc ix, 2)) (K : Wat X k n (pc + 2) lv (.int (i32 v) :: st) ws) : Wat X k n pc lv st ws := fun ls H locs hl hP hD hS => lv_ldc g.x g.b g.ow (g.ts _ hc) hd (by rw [hw]; exact K ls H locs hl hP hD hS)
theorem q_ldc2 (g : Gd X cc own ret nL) (ix : Nat) (v : Int) {w : Int64} (hw : w = i64 v) (hc : Cond.constantLong own ix w ∈ TT) (hd : decode cc pc = .ok (.ldc2_w ix, 3)) (K : Wat X k n (pc + 3) lv (.long (i64 v) :: st) ws) : Wat X k n pc lv st ws := fun ls H locs hl hP hD hS => lv_ldc2 g.x g.b g.ow (g.ts _ hc) hd (by rw [hw]; exact K ls H locs hl hP hD hS)

theorem q_iload_n (g : Gd X cc own ret nL) (i : Fin 4) (j : Nat) {x : Int32} (h : lv[j]? = some ((i : Nat), .int x)) (hd : decode cc pc = .ok (.iload_n i, 1)) (K : Wat X k n (pc + 1) lv (.int x :: st) ws) : Wat X k n pc lv st ws := fun ls H locs hl hP hD hS => lv_iload_n g.x g.b hd rfl (lv_at hl j h) (K ls H locs hl hP hD hS)
theorem q_iload (g : Gd X cc own ret nL) (i j : Nat) {x : Int32} (h : lv[j]? = some (i, .int x)) (hd : decode cc pc = .ok (.iload i, 2)) (K : Wat X k n (pc + 2) lv (.int x :: st) ws) : Wat X k n pc lv st ws := fun ls H locs hl hP hD hS => lv_iload g.x g.b hd (lv_at hl j h) (K ls H locs hl hP hD hS)
theorem q_istore_n (g : Gd X cc own ret nL) (f : Fin 4) (i : Nat) (hf : (f : Nat) = i) {x : Int32} {lv' : List (Nat × Value)} (hi : i < nL) (h : (i, Value.int x) :: lv.filter (fun q => !(q.1 == i) && !(q.1 + 1 == i && q.2.category == 2)) = lv') (hd : decode cc pc = .ok (.istore_n f, 1)) (K : Wat X k n (pc + 1) lv' st ws) : Wat X k n pc lv (.int x :: st) ws := fun ls H locs hl hP hD hS => lv_istore_n g.x g.b hd hf hl (by rw [g.nn]; exact hi) h (fun ls' hl' => K ls' H locs hl' hP hD hS)
theorem q_istore (g : Gd X cc own ret nL) (i : Nat) {x : Int32} {lv' : List (Nat × Value)} (hi : i < nL) (h : (i, Value.int x) :: lv.filter (fun q => !(q.1 == i) && !(q.1 + 1 == i && q.2.category == 2)) = lv') (hd : decode cc pc = .ok (.istore i, 2)) (K : Wat X k n (pc + 2) lv' st ws) : Wat X k n pc lv (.int x :: st) ws := fun ls H locs hl hP hD hS => lv_istore g.x g.b hd hl (by rw [g.nn]; exact hi) h (fun ls' hl' => K ls' H locs hl' hP hD hS)
theorem q_lload_n (g : Gd X cc own ret nL) (i : Fin 4) (j : Nat) {x : Int64} (h : lv[j]? = some ((i : Nat), .long x)) (hd : decode cc pc = .ok (.lload_n i, 1)) (K : Wat X k n (pc + 1) lv (.long x :: st) ws) : Wat X k n pc lv st ws := fun ls H locs hl hP hD hS => lv_lload_n g.x g.b hd rfl (lv_at hl j h) (K ls H locs hl hP hD hS)
theorem q_lload (g : Gd X cc own ret nL) (i j : Nat) {x : Int64} (h : lv[j]? = some (i, .long x)) (hd : decode cc pc = .ok (.lload i, 2)) (K : Wat X k n (pc + 2) lv (.long x :: st) ws) : Wat X k n pc lv st ws := fun ls H locs hl hP hD hS => lv_lload g.x g.b hd (lv_at hl j h) (K ls H locs hl hP hD hS)
theorem q_lstore_n (g : Gd X cc own ret nL) (f : Fin 4) (i : Nat) (hf : (f : Nat) = i) {x : Int64} {lv' : List (Nat × Value)} (hi : i + 1 < nL) (h : (i, Value.long x) :: lv.filter (fun q => !(q.1 == i) && (!(q.1 == i + 1) && !(q.1 + 1 == i && q.2.category == 2))) = lv') (hd : decode cc pc = .ok (.lstore_n f, 1)) (K : Wat X k n (pc + 1) lv' st ws) : Wat X k n pc lv (.long x :: st) ws := fun ls H locs hl hP hD hS => lv_lstore_n g.x g.b hd hf hl (by rw [g.nn]; exact hi) h (fun ls' hl' => K ls' H locs hl' hP hD hS)
theorem q_lstore (g : Gd X cc own ret nL) (i : Nat) {x : Int64} {lv' : List (Nat × Value)} (hi : i + 1 < nL) (h : (i, Value.long x) :: lv.filter (fun q => !(q.1 == i) && (!(q.1 == i + 1) && !(q.1 + 1 == i && q.2.category == 2))) = lv') (hd : decode cc pc = .ok (.lstore i, 2)) (K : Wat X k n (pc + 2) lv' st ws) : Wat X k n pc lv (.long x :: st) ws := fun ls H locs hl hP hD hS => lv_lstore g.x g.b hd hl (by rw [g.nn]; exact hi) h (fun ls' hl' => K ls' H locs hl' hP hD hS)
theorem q_aload_n (g : Gd X cc own ret nL) (i : Fin 4) (j : Nat) {x : Nat} (h : lv[j]? = some ((i : Nat), .ref x)) (hd : decode cc pc = .ok (.aload_n i, 1)) (K : Wat X k n (pc + 1) lv (.ref x :: st) ws) : Wat X k n pc lv st ws := fun ls H locs hl hP hD hS => lv_aload_n g.x g.b hd rfl (lv_at hl j h) (K ls H locs hl hP hD hS)
theorem q_aload (g : Gd X cc own ret nL) (i j : Nat) {x : Nat} (h : lv[j]? = some (i, .ref x)) (hd : decode cc pc = .ok (.aload i, 2)) (K : Wat X k n (pc + 2) lv (.ref x :: st) ws) : Wat X k n pc lv st ws := fun ls H locs hl hP hD hS => lv_aload g.x g.b hd (lv_at hl j h) (K ls H locs hl hP hD hS)
theorem q_astore_n (g : Gd X cc own ret nL) (f : Fin 4) (i : Nat) (hf : (f : Nat) = i) {x : Nat} {lv' : List (Nat × Value)} (hi : i < nL) (h : (i, Value.ref x) :: lv.filter (fun q => !(q.1 == i) && !(q.1 + 1 == i && q.2.category == 2)) = lv') (hd : decode cc pc = .ok (.astore_n f, 1)) (K : Wat X k n (pc + 1) lv' st ws) : Wat X k n pc lv (.ref x :: st) ws := fun ls H locs hl hP hD hS => lv_astore_n g.x g.b hd hf hl (by rw [g.nn]; exact hi) h (fun ls' hl' => K ls' H locs hl' hP hD hS)
theorem q_astore (g : Gd X cc own ret nL) (i : Nat) {x : Nat} {lv' : List (Nat × Value)} (hi : i < nL) (h : (i, Value.ref x) :: lv.filter (fun q => !(q.1 == i) && !(q.1 + 1 == i && q.2.category == 2)) = lv') (hd : decode cc pc = .ok (.astore i, 2)) (K : Wat X k n (pc + 2) lv' st ws) : Wat X k n pc lv (.ref x :: st) ws := fun ls H locs hl hP hD hS => lv_astore g.x g.b hd hl (by rw [g.nn]; exact hi) h (fun ls' hl' => K ls' H locs hl' hP hD hS)
theorem q_iinc (g : Gd X cc own ret nL) (i j : Nat) (d : Int) {x : Int} {lv' : List (Nat × Value)} (hi : i < nL) (hj : lv[j]? = some (i, .int (i32 x))) (h : (i, Value.int (i32 (x + d))) :: lv.filter (fun q => !(q.1 == i) && !(q.1 + 1 == i && q.2.category == 2)) = lv') (hd : decode cc pc = .ok (.iinc i d, 3)) (K : Wat X k n (pc + 3) lv' st ws) : Wat X k n pc lv st ws := fun ls H locs hl hP hD hS => lv_iinc g.x g.b hd hl hj (i32_add x d) (by rw [g.nn]; exact hi) h (fun ls' hl' => K ls' H locs hl' hP hD hS)
theorem q_iadd (g : Gd X cc own ret nL) {x y : Int} (hd : decode cc pc = .ok (.iadd, 1)) (K : Wat X k n (pc + 1) lv (.int (i32 (x + y)) :: st) ws) : Wat X k n pc lv (.int (i32 y) :: .int (i32 x) :: st) ws := fun ls H locs hl hP hD hS => lv_iadd g.x g.b hd (by rw [i32_add]; exact K ls H locs hl hP hD hS)
theorem q_ladd (g : Gd X cc own ret nL) {x y : Int} (hd : decode cc pc = .ok (.ladd, 1)) (K : Wat X k n (pc + 1) lv (.long (i64 (x + y)) :: st) ws) : Wat X k n pc lv (.long (i64 y) :: .long (i64 x) :: st) ws := fun ls H locs hl hP hD hS => lv_ladd g.x g.b hd (by rw [i64_add]; exact K ls H locs hl hP hD hS)
theorem q_isub (g : Gd X cc own ret nL) {x y : Int} (hd : decode cc pc = .ok (.isub, 1)) (K : Wat X k n (pc + 1) lv (.int (i32 (x - y)) :: st) ws) : Wat X k n pc lv (.int (i32 y) :: .int (i32 x) :: st) ws := fun ls H locs hl hP hD hS => lv_isub g.x g.b hd (by rw [i32_sub]; exact K ls H locs hl hP hD hS)
theorem q_lsub (g : Gd X cc own ret nL) {x y : Int} (hd : decode cc pc = .ok (.lsub, 1)) (K : Wat X k n (pc + 1) lv (.long (i64 (x - y)) :: st) ws) : Wat X k n pc lv (.long (i64 y) :: .long (i64 x) :: st) ws := fun ls H locs hl hP hD hS => lv_lsub g.x g.b hd (by rw [i64_sub]; exact K ls H locs hl hP hD hS)
theorem q_imul (g : Gd X cc own ret nL) {x y : Int} (hd : decode cc pc = .ok (.imul, 1)) (K : Wat X k n (pc + 1) lv (.int (i32 (x * y)) :: st) ws) : Wat X k n pc lv (.int (i32 y) :: .int (i32 x) :: st) ws := fun ls H locs hl hP hD hS => lv_imul g.x g.b hd (by rw [i32_mul]; exact K ls H locs hl hP hD hS)
theorem q_lmul (g : Gd X cc own ret nL) {x y : Int} (hd : decode cc pc = .ok (.lmul, 1)) (K : Wat X k n (pc + 1) lv (.long (i64 (x * y)) :: st) ws) : Wat X k n pc lv (.long (i64 y) :: .long (i64 x) :: st) ws := fun ls H locs hl hP hD hS => lv_lmul g.x g.b hd (by rw [i64_mul]; exact K ls H locs hl hP hD hS)
theorem q_ineg (g : Gd X cc own ret nL) {x : Int} (hd : decode cc pc = .ok (.ineg, 1)) (K : Wat X k n (pc + 1) lv (.int (i32 (-x)) :: st) ws) : Wat X k n pc lv (.int (i32 x) :: st) ws := fun ls H locs hl hP hD hS => lv_ineg g.x g.b hd (by rw [i32_neg]; exact K ls H locs hl hP hD hS)
theorem q_idiv (g : Gd X cc own ret nL) {x y : Int} (hx : r32 x) (hy : r32 y) (h0 : ¬ y = 0) (hd : decode cc pc = .ok (.idiv, 1)) (K : Wat X k n (pc + 1) lv (.int (i32 (x.tdiv y)) :: st) ws) : Wat X k n pc lv (.int (i32 y) :: .int (i32 x) :: st) ws := fun ls H locs hl hP hD hS => lv_idiv g.x g.b hd (fun h => h0 ((i32_eq hy r32_0).mp (by rw [h]; rfl))) (by rw [i32_div hx hy]; exact K ls H locs hl hP hD hS)
theorem q_ldiv (g : Gd X cc own ret nL) {x y : Int} (hx : r64 x) (hy : r64 y) (h0 : ¬ y = 0) (hd : decode cc pc = .ok (.ldiv, 1)) (K : Wat X k n (pc + 1) lv (.long (i64 (x.tdiv y)) :: st) ws) : Wat X k n pc lv (.long (i64 y) :: .long (i64 x) :: st) ws := fun ls H locs hl hP hD hS => lv_ldiv g.x g.b hd (fun h => h0 ((i64_eq hy r64_0).mp (by rw [h]; rfl))) (by rw [i64_div hx hy]; exact K ls H locs hl hP hD hS)
theorem q_irem (g : Gd X cc own ret nL) {x y : Int} (hx : r32 x) (hy : r32 y) (h0 : ¬ y = 0) (hd : decode cc pc = .ok (.irem, 1)) (K : Wat X k n (pc + 1) lv (.int (i32 (x.tmod y)) :: st) ws) : Wat X k n pc lv (.int (i32 y) :: .int (i32 x) :: st) ws := fun ls H locs hl hP hD hS => lv_irem g.x g.b hd (fun h => h0 ((i32_eq hy r32_0).mp (by rw [h]; rfl))) (by rw [i32_rem hx hy]; exact K ls H locs hl hP hD hS)
theorem q_lrem (g : Gd X cc own ret nL) {x y : Int} (hx : r64 x) (hy : r64 y) (h0 : ¬ y = 0) (hd : decode cc pc = .ok (.lrem, 1)) (K : Wat X k n (pc + 1) lv (.long (i64 (x.tmod y)) :: st) ws) : Wat X k n pc lv (.long (i64 y) :: .long (i64 x) :: st) ws := fun ls H locs hl hP hD hS => lv_lrem g.x g.b hd (fun h => h0 ((i64_eq hy r64_0).mp (by rw [h]; rfl))) (by rw [i64_rem hx hy]; exact K ls H locs hl hP hD hS)
theorem q_iand (g : Gd X cc own ret nL) {x y : Int} (hd : decode cc pc = .ok (.iand, 1)) (K : Wat X k n (pc + 1) lv (.int (i32 (land32 x y)) :: st) ws) : Wat X k n pc lv (.int (i32 y) :: .int (i32 x) :: st) ws := fun ls H locs hl hP hD hS => lv_iand g.x g.b hd (by have h := K ls H locs hl hP hD hS; unfold land32 at h; rw [i32_of] at h; exact h)
theorem q_ior (g : Gd X cc own ret nL) {x y : Int} (hd : decode cc pc = .ok (.ior, 1)) (K : Wat X k n (pc + 1) lv (.int (i32 (lor32 x y)) :: st) ws) : Wat X k n pc lv (.int (i32 y) :: .int (i32 x) :: st) ws := fun ls H locs hl hP hD hS => lv_ior g.x g.b hd (by have h := K ls H locs hl hP hD hS; unfold lor32 at h; rw [i32_of] at h; exact h)
theorem q_land (g : Gd X cc own ret nL) {x y : Int} (hd : decode cc pc = .ok (.land, 1)) (K : Wat X k n (pc + 1) lv (.long (i64 (land64 x y)) :: st) ws) : Wat X k n pc lv (.long (i64 y) :: .long (i64 x) :: st) ws := fun ls H locs hl hP hD hS => lv_land g.x g.b hd (by have h := K ls H locs hl hP hD hS; unfold land64 at h; rw [i64_of] at h; exact h)
theorem q_lor (g : Gd X cc own ret nL) {x y : Int} (hd : decode cc pc = .ok (.lor, 1)) (K : Wat X k n (pc + 1) lv (.long (i64 (lor64 x y)) :: st) ws) : Wat X k n pc lv (.long (i64 y) :: .long (i64 x) :: st) ws := fun ls H locs hl hP hD hS => lv_lor g.x g.b hd (by have h := K ls H locs hl hP hD hS; unfold lor64 at h; rw [i64_of] at h; exact h)
theorem q_lxor (g : Gd X cc own ret nL) {x y : Int} (hd : decode cc pc = .ok (.lxor, 1)) (K : Wat X k n (pc + 1) lv (.long (i64 (lxor64 x y)) :: st) ws) : Wat X k n pc lv (.long (i64 y) :: .long (i64 x) :: st) ws := fun ls H locs hl hP hD hS => lv_lxor g.x g.b hd (by have h := K ls H locs hl hP hD hS; unfold lxor64 at h; rw [i64_of] at h; exact h)
theorem q_ishl (g : Gd X cc own ret nL) {x y : Int} (hd : decode cc pc = .ok (.ishl, 1)) (K : Wat X k n (pc + 1) lv (.int (i32 (shl32 x y)) :: st) ws) : Wat X k n pc lv (.int (i32 y) :: .int (i32 x) :: st) ws := fun ls H locs hl hP hD hS => lv_ishl g.x g.b hd (by have h := K ls H locs hl hP hD hS; unfold shl32 at h; rw [i32_of] at h; exact h)
theorem q_ishr (g : Gd X cc own ret nL) {x y : Int} (hd : decode cc pc = .ok (.ishr, 1)) (K : Wat X k n (pc + 1) lv (.int (i32 (shr32 x y)) :: st) ws) : Wat X k n pc lv (.int (i32 y) :: .int (i32 x) :: st) ws := fun ls H locs hl hP hD hS => lv_ishr g.x g.b hd (by have h := K ls H locs hl hP hD hS; unfold shr32 at h; rw [i32_of] at h; exact h)
theorem q_lshl (g : Gd X cc own ret nL) {x y : Int} (hd : decode cc pc = .ok (.lshl, 1)) (K : Wat X k n (pc + 1) lv (.long (i64 (shl64 x y)) :: st) ws) : Wat X k n pc lv (.int (i32 y) :: .long (i64 x) :: st) ws := fun ls H locs hl hP hD hS => lv_lshl g.x g.b hd rfl (by have h := K ls H locs hl hP hD hS; unfold shl64 at h; rw [i64_of] at h; exact h)
theorem q_lshr (g : Gd X cc own ret nL) {x y : Int} (hd : decode cc pc = .ok (.lshr, 1)) (K : Wat X k n (pc + 1) lv (.long (i64 (shr64 x y)) :: st) ws) : Wat X k n pc lv (.int (i32 y) :: .long (i64 x) :: st) ws := fun ls H locs hl hP hD hS => lv_lshr g.x g.b hd rfl (by have h := K ls H locs hl hP hD hS; unfold shr64 at h; rw [i64_of] at h; exact h)
theorem q_lushr (g : Gd X cc own ret nL) {x y : Int} (hd : decode cc pc = .ok (.lushr, 1)) (K : Wat X k n (pc + 1) lv (.long (i64 (ushr64 x y)) :: st) ws) : Wat X k n pc lv (.int (i32 y) :: .long (i64 x) :: st) ws := fun ls H locs hl hP hD hS => lv_lushr g.x g.b hd rfl (by have h := K ls H locs hl hP hD hS; unfold ushr64 at h; rw [i64_of] at h; exact h)
theorem q_i2l (g : Gd X cc own ret nL) {x : Int} (hx : r32 x) (hd : decode cc pc = .ok (.i2l, 1)) (K : Wat X k n (pc + 1) lv (.long (i64 x) :: st) ws) : Wat X k n pc lv (.int (i32 x) :: st) ws := fun ls H locs hl hP hD hS => lv_i2l g.x g.b hd (i32_l hx) (K ls H locs hl hP hD hS)
theorem q_l2i (g : Gd X cc own ret nL) {x : Int} (hd : decode cc pc = .ok (.l2i, 1)) (K : Wat X k n (pc + 1) lv (.int (i32 x) :: st) ws) : Wat X k n pc lv (.long (i64 x) :: st) ws := fun ls H locs hl hP hD hS => lv_l2i g.x g.b hd (i64_i x) (K ls H locs hl hP hD hS)
theorem q_dup (g : Gd X cc own ret nL) {v : Value} (hv : v.category = 1) (hd : decode cc pc = .ok (.dup, 1)) (K : Wat X k n (pc + 1) lv (v :: v :: st) ws) : Wat X k n pc lv (v :: st) ws := fun ls H locs hl hP hD hS => lv_dup g.x g.b hd hv (K ls H locs hl hP hD hS)
theorem q_dup2 (g : Gd X cc own ret nL) {v w : Value} (hv : v.category = 1) (hw : w.category = 1) (hd : decode cc pc = .ok (.dup2, 1)) (K : Wat X k n (pc + 1) lv (v :: w :: v :: w :: st) ws) : Wat X k n pc lv (v :: w :: st) ws := fun ls H locs hl hP hD hS => lv_dup2_11 g.x g.b hd hv hw (K ls H locs hl hP hD hS)
theorem q_goto (g : Gd X cc own ret nL) (off : Int) (tgt : Nat) (ht : (pc : Int) + off = (tgt : Int)) (hd : decode cc pc = .ok (.goto off, 3)) (K : Wat X k n tgt lv st ws) : Wat X k n pc lv st ws := fun ls H locs hl hP hD hS => lv_goto g.x g.b hd ht (K ls H locs hl hP hD hS)
theorem q_icmp_eq (g : Gd X cc own ret nL) (off : Int) (tgt : Nat) {x y : Int} (hx : r32 x) (hy : r32 y) (ht : (pc : Int) + off = (tgt : Int)) (hd : decode cc pc = .ok (.if_icmp .eq off, 3)) (T : x = y → Wat X k n tgt lv st ws) (F : ¬ (x = y) → Wat X k n (pc + 3) lv st ws) : Wat X k n pc lv (.int (i32 y) :: .int (i32 x) :: st) ws := fun ls H locs hl hP hD hS => lv_icmp_eq g.x g.b hd ht (fun h => T ((i32_eq hx hy).mp h) ls H locs hl hP hD hS) (fun h => F (fun e => h ((i32_eq hx hy).mpr e)) ls H locs hl hP hD hS)
theorem q_if_eq (g : Gd X cc own ret nL) (off : Int) (tgt : Nat) {x : Int} (hx : r32 x) (ht : (pc : Int) + off = (tgt : Int)) (hd : decode cc pc = .ok (.ifCond .eq off, 3)) (T : x = 0 → Wat X k n tgt lv st ws) (F : ¬ (x = 0) → Wat X k n (pc + 3) lv st ws) : Wat X k n pc lv (.int (i32 x) :: st) ws := fun ls H locs hl hP hD hS => lv_if_eq g.x g.b hd ht (fun h => T ((i32_eq hx r32_0).mp h) ls H locs hl hP hD hS) (fun h => F (fun e => h ((i32_eq hx r32_0).mpr e)) ls H locs hl hP hD hS)
theorem q_lcmp_eq (g : Gd X cc own ret nL) (off : Int) (tgt : Nat) {x y : Int} (hx : r64 x) (hy : r64 y) (ht : ((pc + 1 : Nat) : Int) + off = (tgt : Int)) (hd : decode cc pc = .ok (.lcmp, 1)) (hd2 : decode cc (pc + 1) = .ok (.ifCond .eq off, 3)) (T : x = y → Wat X k n tgt lv st ws) (F : ¬ (x = y) → Wat X k n (pc + 4) lv st ws) : Wat X k n pc lv (.long (i64 y) :: .long (i64 x) :: st) ws := fun ls H locs hl hP hD hS => W.lcmp g.x g.b hd (lv_if_eq g.x g.b hd2 ht (fun h => T ((((lg_cmp_eq (i64 x) (i64 y)).trans (i64_eq hx hy))).mp h) ls H locs hl hP hD hS) (fun h => F (fun e => h ((((lg_cmp_eq (i64 x) (i64 y)).trans (i64_eq hx hy))).mpr e)) ls H locs hl hP hD hS))
theorem q_icmp_ne (g : Gd X cc own ret nL) (off : Int) (tgt : Nat) {x y : Int} (hx : r32 x) (hy : r32 y) (ht : (pc : Int) + off = (tgt : Int)) (hd : decode cc pc = .ok (.if_icmp .ne off, 3)) (T : ¬ x = y → Wat X k n tgt lv st ws) (F : x = y → Wat X k n (pc + 3) lv st ws) : Wat X k n pc lv (.int (i32 y) :: .int (i32 x) :: st) ws := fun ls H locs hl hP hD hS => lv_icmp_ne g.x g.b hd ht (fun h => T (fun e => h ((i32_eq hx hy).mpr e)) ls H locs hl hP hD hS) (fun h => F ((i32_eq hx hy).mp h) ls H locs hl hP hD hS)
theorem q_if_ne (g : Gd X cc own ret nL) (off : Int) (tgt : Nat) {x : Int} (hx : r32 x) (ht : (pc : Int) + off = (tgt : Int)) (hd : decode cc pc = .ok (.ifCond .ne off, 3)) (T : ¬ x = 0 → Wat X k n tgt lv st ws) (F : x = 0 → Wat X k n (pc + 3) lv st ws) : Wat X k n pc lv (.int (i32 x) :: st) ws := fun ls H locs hl hP hD hS => lv_if_ne g.x g.b hd ht (fun h => T (fun e => h ((i32_eq hx r32_0).mpr e)) ls H locs hl hP hD hS) (fun h => F ((i32_eq hx r32_0).mp h) ls H locs hl hP hD hS)
theorem q_lcmp_ne (g : Gd X cc own ret nL) (off : Int) (tgt : Nat) {x y : Int} (hx : r64 x) (hy : r64 y) (ht : ((pc + 1 : Nat) : Int) + off = (tgt : Int)) (hd : decode cc pc = .ok (.lcmp, 1)) (hd2 : decode cc (pc + 1) = .ok (.ifCond .ne off, 3)) (T : ¬ x = y → Wat X k n tgt lv st ws) (F : x = y → Wat X k n (pc + 4) lv st ws) : Wat X k n pc lv (.long (i64 y) :: .long (i64 x) :: st) ws := fun ls H locs hl hP hD hS => W.lcmp g.x g.b hd (lv_if_ne g.x g.b hd2 ht (fun h => T (fun e => h ((((lg_cmp_eq (i64 x) (i64 y)).trans (i64_eq hx hy))).mpr e)) ls H locs hl hP hD hS) (fun h => F ((((lg_cmp_eq (i64 x) (i64 y)).trans (i64_eq hx hy))).mp h) ls H locs hl hP hD hS))
theorem q_icmp_lt (g : Gd X cc own ret nL) (off : Int) (tgt : Nat) {x y : Int} (hx : r32 x) (hy : r32 y) (ht : (pc : Int) + off = (tgt : Int)) (hd : decode cc pc = .ok (.if_icmp .lt off, 3)) (T : x < y → Wat X k n tgt lv st ws) (F : ¬ (x < y) → Wat X k n (pc + 3) lv st ws) : Wat X k n pc lv (.int (i32 y) :: .int (i32 x) :: st) ws := fun ls H locs hl hP hD hS => lv_icmp_lt g.x g.b hd ht (fun h => T ((i32_lt hx hy).mp h) ls H locs hl hP hD hS) (fun h => F (fun e => h ((i32_lt hx hy).mpr e)) ls H locs hl hP hD hS)
theorem q_if_lt (g : Gd X cc own ret nL) (off : Int) (tgt : Nat) {x : Int} (hx : r32 x) (ht : (pc : Int) + off = (tgt : Int)) (hd : decode cc pc = .ok (.ifCond .lt off, 3)) (T : x < 0 → Wat X k n tgt lv st ws) (F : ¬ (x < 0) → Wat X k n (pc + 3) lv st ws) : Wat X k n pc lv (.int (i32 x) :: st) ws := fun ls H locs hl hP hD hS => lv_if_lt g.x g.b hd ht (fun h => T ((i32_lt hx r32_0).mp h) ls H locs hl hP hD hS) (fun h => F (fun e => h ((i32_lt hx r32_0).mpr e)) ls H locs hl hP hD hS)
theorem q_lcmp_lt (g : Gd X cc own ret nL) (off : Int) (tgt : Nat) {x y : Int} (hx : r64 x) (hy : r64 y) (ht : ((pc + 1 : Nat) : Int) + off = (tgt : Int)) (hd : decode cc pc = .ok (.lcmp, 1)) (hd2 : decode cc (pc + 1) = .ok (.ifCond .lt off, 3)) (T : x < y → Wat X k n tgt lv st ws) (F : ¬ (x < y) → Wat X k n (pc + 4) lv st ws) : Wat X k n pc lv (.long (i64 y) :: .long (i64 x) :: st) ws := fun ls H locs hl hP hD hS => W.lcmp g.x g.b hd (lv_if_lt g.x g.b hd2 ht (fun h => T ((((lg_cmp_lt (i64 x) (i64 y)).trans (i64_lt hx hy))).mp h) ls H locs hl hP hD hS) (fun h => F (fun e => h ((((lg_cmp_lt (i64 x) (i64 y)).trans (i64_lt hx hy))).mpr e)) ls H locs hl hP hD hS))
theorem q_icmp_ge (g : Gd X cc own ret nL) (off : Int) (tgt : Nat) {x y : Int} (hx : r32 x) (hy : r32 y) (ht : (pc : Int) + off = (tgt : Int)) (hd : decode cc pc = .ok (.if_icmp .ge off, 3)) (T : y ≤ x → Wat X k n tgt lv st ws) (F : ¬ (y ≤ x) → Wat X k n (pc + 3) lv st ws) : Wat X k n pc lv (.int (i32 y) :: .int (i32 x) :: st) ws := fun ls H locs hl hP hD hS => lv_icmp_ge g.x g.b hd ht (fun h => T ((i32_le hy hx).mp h) ls H locs hl hP hD hS) (fun h => F (fun e => h ((i32_le hy hx).mpr e)) ls H locs hl hP hD hS)
theorem q_if_ge (g : Gd X cc own ret nL) (off : Int) (tgt : Nat) {x : Int} (hx : r32 x) (ht : (pc : Int) + off = (tgt : Int)) (hd : decode cc pc = .ok (.ifCond .ge off, 3)) (T : 0 ≤ x → Wat X k n tgt lv st ws) (F : ¬ (0 ≤ x) → Wat X k n (pc + 3) lv st ws) : Wat X k n pc lv (.int (i32 x) :: st) ws := fun ls H locs hl hP hD hS => lv_if_ge g.x g.b hd ht (fun h => T ((i32_le r32_0 hx).mp h) ls H locs hl hP hD hS) (fun h => F (fun e => h ((i32_le r32_0 hx).mpr e)) ls H locs hl hP hD hS)
theorem q_lcmp_ge (g : Gd X cc own ret nL) (off : Int) (tgt : Nat) {x y : Int} (hx : r64 x) (hy : r64 y) (ht : ((pc + 1 : Nat) : Int) + off = (tgt : Int)) (hd : decode cc pc = .ok (.lcmp, 1)) (hd2 : decode cc (pc + 1) = .ok (.ifCond .ge off, 3)) (T : y ≤ x → Wat X k n tgt lv st ws) (F : ¬ (y ≤ x) → Wat X k n (pc + 4) lv st ws) : Wat X k n pc lv (.long (i64 y) :: .long (i64 x) :: st) ws := fun ls H locs hl hP hD hS => W.lcmp g.x g.b hd (lv_if_ge g.x g.b hd2 ht (fun h => T ((((lg_cmp_ge (i64 x) (i64 y)).trans (i64_le hy hx))).mp h) ls H locs hl hP hD hS) (fun h => F (fun e => h ((((lg_cmp_ge (i64 x) (i64 y)).trans (i64_le hy hx))).mpr e)) ls H locs hl hP hD hS))
theorem q_icmp_gt (g : Gd X cc own ret nL) (off : Int) (tgt : Nat) {x y : Int} (hx : r32 x) (hy : r32 y) (ht : (pc : Int) + off = (tgt : Int)) (hd : decode cc pc = .ok (.if_icmp .gt off, 3)) (T : y < x → Wat X k n tgt lv st ws) (F : ¬ (y < x) → Wat X k n (pc + 3) lv st ws) : Wat X k n pc lv (.int (i32 y) :: .int (i32 x) :: st) ws := fun ls H locs hl hP hD hS => lv_icmp_gt g.x g.b hd ht (fun h => T ((i32_lt hy hx).mp h) ls H locs hl hP hD hS) (fun h => F (fun e => h ((i32_lt hy hx).mpr e)) ls H locs hl hP hD hS)
theorem q_if_gt (g : Gd X cc own ret nL) (off : Int) (tgt : Nat) {x : Int} (hx : r32 x) (ht : (pc : Int) + off = (tgt : Int)) (hd : decode cc pc = .ok (.ifCond .gt off, 3)) (T : 0 < x → Wat X k n tgt lv st ws) (F : ¬ (0 < x) → Wat X k n (pc + 3) lv st ws) : Wat X k n pc lv (.int (i32 x) :: st) ws := fun ls H locs hl hP hD hS => lv_if_gt g.x g.b hd ht (fun h => T ((i32_lt r32_0 hx).mp h) ls H locs hl hP hD hS) (fun h => F (fun e => h ((i32_lt r32_0 hx).mpr e)) ls H locs hl hP hD hS)
theorem q_lcmp_gt (g : Gd X cc own ret nL) (off : Int) (tgt : Nat) {x y : Int} (hx : r64 x) (hy : r64 y) (ht : ((pc + 1 : Nat) : Int) + off = (tgt : Int)) (hd : decode cc pc = .ok (.lcmp, 1)) (hd2 : decode cc (pc + 1) = .ok (.ifCond .gt off, 3)) (T : y < x → Wat X k n tgt lv st ws) (F : ¬ (y < x) → Wat X k n (pc + 4) lv st ws) : Wat X k n pc lv (.long (i64 y) :: .long (i64 x) :: st) ws := fun ls H locs hl hP hD hS => W.lcmp g.x g.b hd (lv_if_gt g.x g.b hd2 ht (fun h => T ((((lg_cmp_gt (i64 x) (i64 y)).trans (i64_lt hy hx))).mp h) ls H locs hl hP hD hS) (fun h => F (fun e => h ((((lg_cmp_gt (i64 x) (i64 y)).trans (i64_lt hy hx))).mpr e)) ls H locs hl hP hD hS))
theorem q_icmp_le (g : Gd X cc own ret nL) (off : Int) (tgt : Nat) {x y : Int} (hx : r32 x) (hy : r32 y) (ht : (pc : Int) + off = (tgt : Int)) (hd : decode cc pc = .ok (.if_icmp .le off, 3)) (T : x ≤ y → Wat X k n tgt lv st ws) (F : ¬ (x ≤ y) → Wat X k n (pc + 3) lv st ws) : Wat X k n pc lv (.int (i32 y) :: .int (i32 x) :: st) ws := fun ls H locs hl hP hD hS => lv_icmp_le g.x g.b hd ht (fun h => T ((i32_le hx hy).mp h) ls H locs hl hP hD hS) (fun h => F (fun e => h ((i32_le hx hy).mpr e)) ls H locs hl hP hD hS)
theorem q_if_le (g : Gd X cc own ret nL) (off : Int) (tgt : Nat) {x : Int} (hx : r32 x) (ht : (pc : Int) + off = (tgt : Int)) (hd : decode cc pc = .ok (.ifCond .le off, 3)) (T : x ≤ 0 → Wat X k n tgt lv st ws) (F : ¬ (x ≤ 0) → Wat X k n (pc + 3) lv st ws) : Wat X k n pc lv (.int (i32 x) :: st) ws := fun ls H locs hl hP hD hS => lv_if_le g.x g.b hd ht (fun h => T ((i32_le hx r32_0).mp h) ls H locs hl hP hD hS) (fun h => F (fun e => h ((i32_le hx r32_0).mpr e)) ls H locs hl hP hD hS)
theorem q_lcmp_le (g : Gd X cc own ret nL) (off : Int) (tgt : Nat) {x y : Int} (hx : r64 x) (hy : r64 y) (ht : ((pc + 1 : Nat) : Int) + off = (tgt : Int)) (hd : decode cc pc = .ok (.lcmp, 1)) (hd2 : decode cc (pc + 1) = .ok (.ifCond .le off, 3)) (T : x ≤ y → Wat X k n tgt lv st ws) (F : ¬ (x ≤ y) → Wat X k n (pc + 4) lv st ws) : Wat X k n pc lv (.long (i64 y) :: .long (i64 x) :: st) ws := fun ls H locs hl hP hD hS => W.lcmp g.x g.b hd (lv_if_le g.x g.b hd2 ht (fun h => T ((((lg_cmp_le (i64 x) (i64 y)).trans (i64_le hx hy))).mp h) ls H locs hl hP hD hS) (fun h => F (fun e => h ((((lg_cmp_le (i64 x) (i64 y)).trans (i64_le hx hy))).mpr e)) ls H locs hl hP hD hS))
theorem q_tabIn (g : Gd X cc own ret nL) {dflt lo hi : Int} {offs : Array Int} {len : Nat} {x off : Int} (tgt : Nat) (v : Int) (hx : r32 x) (hv : x = v) (h1 : ¬ v < lo) (h2 : ¬ hi < v) (ho : offs[(v - lo).toNat]? = some off) (ht : (pc : Int) + off = (tgt : Int)) (hd : decode cc pc = .ok (.tableswitch dflt lo hi offs, len)) (K : Wat X k n tgt lv st ws) : Wat X k n pc lv (.int (i32 x) :: st) ws := fun ls H locs hl hP hD hS => by
  subst hv
  exact lv_tableIn g.x g.b hd (by rw [i32_t hx]; exact h1) (by rw [i32_t hx]; exact h2) (by rw [i32_t hx]; exact ho) ht (K ls H locs hl hP hD hS)
theorem q_tabOut (g : Gd X cc own ret nL) {dflt lo hi : Int} {offs : Array Int} {len : Nat} {x : Int} (tgt : Nat) (hx : r32 x) (h : x < lo ∨ hi < x) (ht : (pc : Int) + dflt = (tgt : Int)) (hd : decode cc pc = .ok (.tableswitch dflt lo hi offs, len)) (K : Wat X k n tgt lv st ws) : Wat X k n pc lv (.int (i32 x) :: st) ws := fun ls H locs hl hP hD hS =>
  lv_tableOut g.x g.b hd (by rw [i32_t hx]; exact h) ht (K ls H locs hl hP hD hS)
/-! fields, rows -/
theorem q_get (g : Gd X cc own ret nL) (ix : Nat) {a ci N : Nat} {C : String} {T : u_T} {fs : List Value} {v : Value} (hin : ∀ w ∈ u_ws C T N, w ∈ TT) (q0 j : Nat) (he : ws[q0]? = some (a, .inr (ci, fs))) (hc : vwCl[ci]? = some (C, T, N)) (hj : j < N) (hlink : Cond.fieldLink own ix (T j).1 (T j).2.1 (T j).2.2.1 ∈ TT) (hv : fs[j]? = some v) (hd : decode cc pc = .ok (.getfield ix, 3)) (K : Wat X k n (pc + 3) lv (v :: st) ws) : Wat X k n pc lv (.ref a :: st) ws := fun ls H locs hl hP hD hS =>
  va_get g.x g.b g.ts hin g.ow g.K hP q0 he hc j hj (g.ts _ hlink) (fun _ h => h) hv hd (K ls H locs hl hP hD hS)
theorem q_put (g : Gd X cc own ret nL) (ix : Nat) {a ci N : Nat} {C : String} {T : u_T} {fs : List Value} {v : Value} {ty : FieldType} {ws' : va_W} {ty0 : Nat → FieldType} (hin : ∀ w ∈ u_ws C T N, w ∈ TT) (hty : ∀ k, k < N → parseFieldDescriptor (T k).2.2.1 = some (ty0 k)) (hnm : ∀ a, a < N → ∀ b, b < N → a ≠ b → (T a).2.1 ≠ (T b).2.1) (q0 j : Nat) (he : ws[q0]? = some (a, .inr (ci, fs))) (hc : vwCl[ci]? = some (C, T, N)) (hj : j < N) (hlink : Cond.fieldLink own ix (T j).1 (T j).2.1 (T j).2.2.1 ∈ TT) (hfin : (T j).2.2.2 = false) (hpd : parseFieldDescriptor (T j).2.2.1 = some ty) (hn : narrow ty v = v) (hfit : fits ty v = true) (hl : j < fs.length) (hw : ws.set q0 (a, .inr (ci, fs.set j v)) = ws') (hd : decode cc pc = .ok (.putfield ix, 3)) (K : Wat X k n (pc + 3) lv st ws') : Wat X k n pc lv (v :: .ref a :: st) ws := fun ls H locs hlv hP hD hS =>
  va_put g.x g.b g.ts hin ty0 hty hnm g.ow g.K hP hD hS q0 he hc j hj (g.ts _ hlink) (fun _ h => h) hfin hpd hn hfit hl hd (fun H1 locs1 hP1 hD1 hS1 => K ls H1 locs1 hlv (by rw [← hw]; exact hP1) (by rw [← hw]; exact hD1) hS1)
theorem q_putF (g : Gd X cc own ret nL) (hi : X.meth.name = "<init>") (ix : Nat) {a ci N : Nat} {C : String} {T : u_T} {fs : List Value} {v : Value} {ty : FieldType} {ws' : va_W} {ty0 : Nat → FieldType} (hin : ∀ w ∈ u_ws C T N, w ∈ TT) (hty : ∀ k, k < N → parseFieldDescriptor (T k).2.2.1 = some (ty0 k)) (hnm : ∀ a, a < N → ∀ b, b < N → a ≠ b → (T a).2.1 ≠ (T b).2.1) (q0 j : Nat) (he : ws[q0]? = some (a, .inr (ci, fs))) (hc : vwCl[ci]? = some (C, T, N)) (hj : j < N) (hlink : Cond.fieldLink own ix (T j).1 (T j).2.1 (T j).2.2.1 ∈ TT) (hfin : (T j).2.2.2 = true) (hdecl : (T j).1 = own) (hpd : parseFieldDescriptor (T j).2.2.1 = some ty) (hn : narrow ty v = v) (hfit : fits ty v = true) (hl : j < fs.length) (hw : ws.set q0 (a, .inr (ci, fs.set j v)) = ws') (hd : decode cc pc = .ok (.putfield ix, 3)) (K : Wat X k n (pc + 3) lv st ws') : Wat X k n pc lv (v :: .ref a :: st) ws := fun ls H locs hlv hP hD hS =>
  va_putF g.x g.b g.ts hin ty0 hty hnm g.ow g.K hP hD hS q0 he hc j hj (g.ts _ hlink) (fun _ h => h) hfin hi hdecl hpd hn hfit hl hd (fun H1 locs1 hP1 hD1 hS1 => K ls H1 locs1 hlv (by rw [← hw]; exact hP1) (by rw [← hw]; exact hD1) hS1)
theorem q_iald (g : Gd X cc own ret nL) (q0 : Nat) {a N : Nat} {f : Int → Int} {x : Int} (he : ws[q0]? = some (a, aI X.cI N f)) (h0 : 0 ≤ x) (h1 : x < N) (hN : N < 2147483648) (hd : decode cc pc = .ok (.iaload, 1)) (K : Wat X k n (pc + 1) lv (.int (i32 (f x)) :: st) ws) : Wat X k n pc lv (.int (i32 x) :: .ref a :: st) ws := fun ls H locs hl hP hD hS =>
  va_iald g.x g.b g.K hP q0 0 he rfl (idx_in h0 h1 hN) hd (by have h := K ls H locs hl hP hD hS; rw [idx_c h0 (by omega)]; exact h)
theorem q_lald (g : Gd X cc own ret nL) (q0 : Nat) {a N : Nat} {f : Int → Int} {x : Int} (he : ws[q0]? = some (a, aL X.cJ N f)) (h0 : 0 ≤ x) (h1 : x < N) (hN : N < 2147483648) (hd : decode cc pc = .ok (.laload, 1)) (K : Wat X k n (pc + 1) lv (.long (i64 (f x)) :: st) ws) : Wat X k n pc lv (.int (i32 x) :: .ref a :: st) ws := fun ls H locs hl hP hD hS =>
  va_lald g.x g.b g.K hP q0 1 he rfl (idx_in h0 h1 hN) hd (by have h := K ls H locs hl hP hD hS; rw [idx_c h0 (by omega)]; exact h)
theorem upd_i {f : Int → Int} {x v : Int} (h0 : 0 ≤ x) (h1 : x < 2147483648) : upd (fun j : Nat => i32 (f j)) (i32 x).toNatClampNeg (i32 v) = fun j : Nat => i32 (ups f x v j) := by
  funext j
  have hc := idx_c h0 h1
  unfold ups
  by_cases e : (j : Int) = x
  · have e2 : j = (i32 x).toNatClampNeg := by omega
    rw [if_pos e, e2, pk_us]
  · have e2 : j ≠ (i32 x).toNatClampNeg := by omega
    rw [if_neg e, pk_un e2]
theorem upd_l {f : Int → Int} {x v : Int} (h0 : 0 ≤ x) (h1 : x < 2147483648) : vp_updL (fun j : Nat => i64 (f j)) (i32 x).toNatClampNeg (i64 v) = fun j : Nat => i64 (ups f x v j) := by
  funext j
  have hc := idx_c h0 h1
  unfold ups
  by_cases e : (j : Int) = x
  · have e2 : j = (i32 x).toNatClampNeg := by omega
    rw [if_pos e, e2, pk_uLs]
  · have e2 : j ≠ (i32 x).toNatClampNeg := by omega
    rw [if_neg e, pk_uLn e2]
theorem q_iast (g : Gd X cc own ret nL) (q0 : Nat) {a N : Nat} {f : Int → Int} {x v : Int} {ws' : va_W} (he : ws[q0]? = some (a, aI X.cI N f)) (h0 : 0 ≤ x) (h1 : x < N) (hN : N < 2147483648) (hw : ws.set q0 (a, aI X.cI N (ups f x v)) = ws') (hd : decode cc pc = .ok (.iastore, 1)) (K : Wat X k n (pc + 1) lv st ws') : Wat X k n pc lv (.int (i32 v) :: .int (i32 x) :: .ref a :: st) ws := fun ls H locs hl hP hD hS =>
  va_iast g.x g.b g.K hP hD hS q0 0 he rfl (idx_in h0 h1 hN) hd (fun H1 locs1 hP1 hD1 hS1 => by
    rw [upd_i h0 (by omega)] at hP1 hD1
    exact K ls H1 locs1 hl (by rw [← hw]; exact hP1) (by rw [← hw]; exact hD1) hS1)
theorem q_last (g : Gd X cc own ret nL) (q0 : Nat) {a N : Nat} {f : Int → Int} {x v : Int} {ws' : va_W} (he : ws[q0]? = some (a, aL X.cJ N f)) (h0 : 0 ≤ x) (h1 : x < N) (hN : N < 2147483648) (hw : ws.set q0 (a, aL X.cJ N (ups f x v)) = ws') (hd : decode cc pc = .ok (.lastore, 1)) (K : Wat X k n (pc + 1) lv st ws') : Wat X k n pc lv (.long (i64 v) :: .int (i32 x) :: .ref a :: st) ws := fun ls H locs hl hP hD hS =>
  va_last g.x g.b g.K hP hD hS q0 1 he rfl (idx_in h0 h1 hN) hd (fun H1 locs1 hP1 hD1 hS1 => by
    rw [upd_l h0 (by omega)] at hP1 hD1
    exact K ls H1 locs1 hl (by rw [← hw]; exact hP1) (by rw [← hw]; exact hD1) hS1)
theorem q_alenI (g : Gd X cc own ret nL) (q0 : Nat) {a N : Nat} {f : Int → Int} (v : Int) (hv : (N : Int) = v) (he : ws[q0]? = some (a, aI X.cI N f)) (hd : decode cc pc = .ok (.arraylength, 1)) (K : Wat X k n (pc + 1) lv (.int (i32 v) :: st) ws) : Wat X k n pc lv (.ref a :: st) ws := fun ls H locs hl hP hD hS =>
  va_alen g.x g.b g.K hP q0 0 he rfl (by rw [← hv]; rfl) hd (K ls H locs hl hP hD hS)
theorem q_alenL (g : Gd X cc own ret nL) (q0 : Nat) {a N : Nat} {f : Int → Int} (v : Int) (hv : (N : Int) = v) (he : ws[q0]? = some (a, aL X.cJ N f)) (hd : decode cc pc = .ok (.arraylength, 1)) (K : Wat X k n (pc + 1) lv (.int (i32 v) :: st) ws) : Wat X k n pc lv (.ref a :: st) ws := fun ls H locs hl hP hD hS =>
  va_alen g.x g.b g.K hP q0 1 he rfl (by rw [← hv]; rfl) hd (K ls H locs hl hP hD hS)
/-! the static row -/
theorem q_prm (g : Gd X cc own ret nL) (ix : Nat) (hlink : Cond.fieldLink own ix "SingleShares$Finder" "PRIMES_FALLING" "[I" ∈ TT) (hd : decode cc pc = .ok (.getstatic ix, 3)) (K : Wat X k n (pc + 3) lv (.ref X.zt :: st) ws) : Wat X k n pc lv st ws := fun ls H locs hl hP hD hS =>
  va_gets g.x g.b g.Z.1 hS g.ow (g.ts _ hlink) (fun _ h => h) hd (K ls H locs hl hP hD hS)
theorem q_prmLen (g : Gd X cc own ret nL) (hd : decode cc pc = .ok (.arraylength, 1)) (K : Wat X k n (pc + 1) lv (.int (i32 17) :: st) ws) : Wat X k n pc lv (.ref X.zt :: st) ws := fun ls H locs hl hP hD hS =>
  va_tlen g.x g.b g.Z.2 hS rfl hd (K ls H locs hl hP hD hS)
theorem q_prmAt (g : Gd X cc own ret nL) {x : Int} (h0 : 0 ≤ x) (h1 : x < 17) (hd : decode cc pc = .ok (.iaload, 1)) (K : Wat X k n (pc + 1) lv (.int (i32 (prmF x)) :: st) ws) : Wat X k n pc lv (.int (i32 x) :: .ref X.zt :: st) ws := fun ls H locs hl hP hD hS =>
  va_ti g.x g.b g.Z.2 hS (idx_in h0 h1 (by decide)) (by rw [idx_c h0 (by omega)]) hd (K ls H locs hl hP hD hS)
theorem q_topi {x : Int} (hr : r32 x) (K : ∀ y : Int, y = x → r32 y → Wat X k n pc lv (.int (i32 y) :: st) ws) : Wat X k n pc lv (.int (i32 x) :: st) ws := K x rfl hr
theorem q_topl {x : Int} (hr : r64 x) (K : ∀ y : Int, y = x → r64 y → Wat X k n pc lv (.long (i64 y) :: st) ws) : Wat X k n pc lv (.long (i64 x) :: st) ws := K x rfl hr
theorem q_mmaxI (g : Gd X cc own ret nL) (ix : Nat) {x y : Int} (hx : r32 x) (hy : r32 y) (w1 : Cond.methodLink own ix Lib.Math.max.name ∈ TT) (w2 : Cond.static Lib.Math.max.name ∈ TT) (w3 : Cond.initialized "java/lang/Math" ∈ TT) (w4 : Cond.code Lib.Math.max.name Lib.Math.max.code 2 (some .int) ∈ TT) (hroom : 1 ≤ X.R.frames ∧ 100 ≤ X.R.locals ∧ k ≤ X.R.cells ∧ n ≤ X.R.slots) (hst : (st.map fun v => v.category).sum ≤ 8) (hd : decode cc pc = .ok (.invokestatic ix, 3)) (K : Wat X k n (pc + 3) lv (.int (i32 (max x y)) :: st) ws) : Wat X k n pc lv (.int (i32 y) :: .int (i32 x) :: st) ws := fun ls H locs hl hP hD hS =>
  va_mmax g.x g.b (by rw [g.ml]; exact hl.1.symm) g.ow (g.ts _ w1) (g.ts _ w2) (g.ts _ w3) (g.ts _ w4) hroom.1 (by have := hroom.2.1; omega) hroom.2.2.1 hroom.2.2.2 hd (by
    have h := K ls H locs hl hP hD hS
    have e : (if i32 x < i32 y then i32 y else i32 x) = i32 (max x y) := by
      by_cases q : x < y
      · rw [if_pos ((i32_lt hx hy).mpr q), Int.max_eq_right (by omega)]
      · rw [if_neg (fun z => q ((i32_lt hx hy).mp z)), Int.max_eq_left (by omega)]
    rw [e]; exact h)
theorem q_mminI (g : Gd X cc own ret nL) (ix : Nat) {x y : Int} (hx : r32 x) (hy : r32 y) (w1 : Cond.methodLink own ix Lib.Math.min.name ∈ TT) (w2 : Cond.static Lib.Math.min.name ∈ TT) (w3 : Cond.initialized "java/lang/Math" ∈ TT) (w4 : Cond.code Lib.Math.min.name Lib.Math.min.code 2 (some .int) ∈ TT) (hroom : 1 ≤ X.R.frames ∧ 100 ≤ X.R.locals ∧ k ≤ X.R.cells ∧ n ≤ X.R.slots) (hst : (st.map fun v => v.category).sum ≤ 8) (hd : decode cc pc = .ok (.invokestatic ix, 3)) (K : Wat X k n (pc + 3) lv (.int (i32 (min x y)) :: st) ws) : Wat X k n pc lv (.int (i32 y) :: .int (i32 x) :: st) ws := fun ls H locs hl hP hD hS =>
  va_mmin g.x g.b (by rw [g.ml]; exact hl.1.symm) g.ow (g.ts _ w1) (g.ts _ w2) (g.ts _ w3) (g.ts _ w4) hroom.1 (by have := hroom.2.1; omega) hroom.2.2.1 hroom.2.2.2 hd (by
    have h := K ls H locs hl hP hD hS
    have e : (if i32 y < i32 x then i32 y else i32 x) = i32 (min x y) := by
      by_cases q : y < x
      · rw [if_pos ((i32_lt hy hx).mpr q), Int.min_eq_right (by omega)]
      · rw [if_neg (fun z => q ((i32_lt hy hx).mp z)), Int.min_eq_left (by omega)]
    rw [e]; exact h)
theorem q_mmaxL (g : Gd X cc own ret nL) (ix : Nat) {x y : Int} (hx : r64 x) (hy : r64 y) (w1 : Cond.methodLink own ix Lib.MathLoose.max_long.x ∈ TT) (w2 : Cond.static Lib.MathLoose.max_long.x ∈ TT) (w3 : Cond.initialized "java/lang/Math" ∈ TT) (w4 : Cond.code Lib.MathLoose.max_long.x Lib.MathLoose.max_long.code 4 (some .long) ∈ TT) (hroom : 1 ≤ X.R.frames ∧ 100 ≤ X.R.locals ∧ k ≤ X.R.cells ∧ n ≤ X.R.slots) (hst : (st.map fun v => v.category).sum ≤ 8) (hd : decode cc pc = .ok (.invokestatic ix, 3)) (K : Wat X k n (pc + 3) lv (.long (i64 (max x y)) :: st) ws) : Wat X k n pc lv (.long (i64 y) :: .long (i64 x) :: st) ws := fun ls H locs hl hP hD hS =>
  va_mmax_long g.x g.b (by rw [g.ml]; exact hl.1.symm) g.ow (g.ts _ w1) (g.ts _ w2) (g.ts _ w3) (g.ts _ w4) hroom.1 (by have := hroom.2.1; omega) hroom.2.2.1 hroom.2.2.2 hd (by
    have h := K ls H locs hl hP hD hS
    have e : (if i64 y < i64 x then i64 x else i64 y) = i64 (max x y) := by
      by_cases q : y < x
      · rw [if_pos ((i64_lt hy hx).mpr q), Int.max_eq_left (by omega)]
      · rw [if_neg (fun z => q ((i64_lt hy hx).mp z)), Int.max_eq_right (by omega)]
    rw [e]; exact h)
theorem r32_max {x y : Int} (hx : r32 x) (hy : r32 y) : r32 (max x y) := by obtain ⟨a, b⟩ := hx; obtain ⟨c, d⟩ := hy; constructor <;> omega
theorem r32_min {x y : Int} (hx : r32 x) (hy : r32 y) : r32 (min x y) := by obtain ⟨a, b⟩ := hx; obtain ⟨c, d⟩ := hy; constructor <;> omega
theorem r64_max {x y : Int} (hx : r64 x) (hy : r64 y) : r64 (max x y) := by obtain ⟨a, b⟩ := hx; obtain ⟨c, d⟩ := hy; constructor <;> omega
theorem q_laddw (g : Gd X cc own ret nL) {x y : Int} (hd : decode cc pc = .ok (.ladd, 1)) (K : Wat X k n (pc + 1) lv (.long (i64 (addw64 x y)) :: st) ws) : Wat X k n pc lv (.long (i64 y) :: .long (i64 x) :: st) ws := fun ls H locs hl hP hD hS => lv_ladd g.x g.b hd (by have h := K ls H locs hl hP hD hS; unfold addw64 at h; rw [i64_of] at h; exact h)
theorem q_lsubw (g : Gd X cc own ret nL) {x y : Int} (hd : decode cc pc = .ok (.lsub, 1)) (K : Wat X k n (pc + 1) lv (.long (i64 (subw64 x y)) :: st) ws) : Wat X k n pc lv (.long (i64 y) :: .long (i64 x) :: st) ws := fun ls H locs hl hP hD hS => lv_lsub g.x g.b hd (by have h := K ls H locs hl hP hD hS; unfold subw64 at h; rw [i64_of] at h; exact h)
theorem q_l2iw (g : Gd X cc own ret nL) {x : Int} (hd : decode cc pc = .ok (.l2i, 1)) (K : Wat X k n (pc + 1) lv (.int (i32 (l2iw x)) :: st) ws) : Wat X k n pc lv (.long (i64 x) :: st) ws := fun ls H locs hl hP hD hS => lv_l2i g.x g.b hd rfl (by have h := K ls H locs hl hP hD hS; unfold l2iw at h; rw [i32_of] at h; exact h)
/-! ends -/
theorem ctQ_ok {Q : Option Value → va_W → Prop} {rv : Option Value} (hQ : Q rv ws) (hK : va_K X.D vwCl (tys2 X.cI X.cJ) X.s) {H : Heap} {locs : List Loc} (hP : va_P X.D vwCl ws H) (hD : va_D X.A ws) (hS : va_S X.A X.s.heap H locs) : ∀ t : State, t.heap = H → X.s.WarmedH t.vm → ctQ X.D X.cI X.cJ X.A Q X.args X.s (.returned rv) t :=
  fun t ht hW => ⟨⟨rv, ws, rfl, hQ, by rw [ht]; exact hP, va_K.moved hW.alike hK, hD⟩, hS.F ht⟩
theorem q_iret (g : Gd X cc own (some .int) nL) {v : Int32} {Q : Option Value → va_W → Prop} (hF : FQ X k n Q) (hQ : Q (some (.int v)) ws) (hd : decode cc pc = .ok (.ireturn, 1)) : Wat X k n pc lv [.int v] ws := fun ls H locs hl hP hD hS => by
  have hlk := g.lk
  rw [hF]
  exact W.iret g.x g.b g.r (ctQ_ok hQ g.K hP hD hS) hS.2.2 hd
theorem q_zret (g : Gd X cc own (some .boolean) nL) {v : Int} {Q : Option Value → va_W → Prop} (hF : FQ X k n Q) (hv : v = 0 ∨ v = 1) (hQ : Q (some (.int (i32 v))) ws) (hd : decode cc pc = .ok (.ireturn, 1)) : Wat X k n pc lv [.int (i32 v)] ws := fun ls H locs hl hP hD hS => by
  have hlk := g.lk
  rw [hF]
  exact W.zret g.x g.b g.r (by rcases hv with h | h <;> subst h <;> rfl) (ctQ_ok hQ g.K hP hD hS) hS.2.2 hd
theorem q_lret (g : Gd X cc own (some .long) nL) {v : Int64} {Q : Option Value → va_W → Prop} (hF : FQ X k n Q) (hQ : Q (some (.long v)) ws) (hd : decode cc pc = .ok (.lreturn, 1)) : Wat X k n pc lv [.long v] ws := fun ls H locs hl hP hD hS => by
  have hlk := g.lk
  rw [hF]
  exact W.lret g.x g.b g.r (ctQ_ok hQ g.K hP hD hS) hS.2.2 hd
theorem q_vret (g : Gd X cc own none nL) {Q : Option Value → va_W → Prop} (hF : FQ X k n Q) (hQ : Q none ws) (hd : decode cc pc = .ok (.return_, 1)) : Wat X k n pc lv [] ws := fun ls H locs hl hP hD hS => by
  have hlk := g.lk
  rw [hF]
  exact W.vret g.x g.b g.r (ctQ_ok hQ g.K hP hD hS) hS.2.2 hd
theorem q_aret {ty : FieldType} (g : Gd X cc own (some (.array ty)) nL) {a : Nat} {Q : Option Value → va_W → Prop} (hF : FQ X k n Q) (hQ : Q (some (.ref a)) ws) (hd : decode cc pc = .ok (.areturn, 1)) : Wat X k n pc lv [.ref a] ws := fun ls H locs hl hP hD hS => by
  have hlk := g.lk
  rw [hF]
  exact W.aret g.x g.b g.r (Or.inr ⟨_, rfl⟩) (Or.inr ⟨_, rfl⟩) (ctQ_ok hQ g.K hP hD hS) hS.2.2 hd
end QR

/-! ===== contracts and calls ===== -/
abbrev rmL (lev mc ms : Nat) : Room := { frames := lev, cells := mc, slots := ms, locals := 100 * lev }
abbrev ctP (D : va_G) (cI cJ : ClassId) (zt : Nat) (av : List Value) (w0 : va_W) (sz : Nat) : Array Value → State → Prop := va_Pc av (fun U => U.heap.size = sz ∧ va_P D vwCl w0 U.heap ∧ va_K D vwCl (tys2 cI cJ) U ∧ va_D (fun _ => True) w0 ∧ Zp zt (va_A w0 sz) U U.heap ∧ Nn U)
def Ct (l : Launch) (D : va_G) (cI cJ : ClassId) (zt : Nat) (y : MethodName) (c : ByteArray) (nL : Nat) (ret : Option FieldType) (lev mc ms : Nat) (av : List Value) (w0 : va_W) (Q : Option Value → va_W → Prop) : Prop :=
  ∀ sz : Nat, Met l y (.code y c nL ret :: TT) (rmL lev mc ms) (ctP D cI cJ zt av w0 sz) (ctQ D cI cJ (va_A w0 sz) Q) mc ms (va_A w0 sz)
theorem ctP_blind {D : va_G} {cI cJ : ClassId} {zt : Nat} {av : List Value} {w0 : va_W} {sz : Nat} : FrameBlind (ctP D cI cJ zt av w0 sz) := fun a U g mk q => by
  obtain ⟨q0, q1, qP, qK, qD, qZ, qN⟩ := q
  exact ⟨q0, q1, qP, va_K.moved (u := U) (U := U.calling g mk a) (Vm.Alike.refl U.vm) qK, qD, ⟨va_Z.moved (u := U) (U := U.calling g mk a) (Vm.Alike.refl U.vm) qZ.1, va_T.moved (u := U) (U := U.calling g mk a) (Vm.Alike.refl U.vm) qZ.2⟩, qN.same rfl⟩
/-- a contract out of a walk -/
theorem ct_of {l : Launch} {D : va_G} {cI cJ : ClassId} {zt : Nat} {y : MethodName} {cc : ByteArray} {nL : Nat} {ret : Option FieldType} {lev mc ms : Nat} {av : List Value} {w0 : va_W} {Q : Option Value → va_W → Prop}
    (hy : plainName y.cls = true) (hn : (lg_sl av).length ≤ nL)
    (h : ∀ X : Cx, X.l = l → X.D = D → X.cI = cI → X.cJ = cJ → X.zt = zt → X.R = rmL lev mc ms → FQ X mc ms Q → X.meth.name = y.name → Gd X cc y.cls ret nL → Wat X 0 0 0 (lv_args 0 av) [] w0) : Ct l D cI cJ zt y cc nL ret lev mc ms av w0 Q := by
  intro sz
  refine Met.ofW (cc := cc) (maxL := nL) (ret := ret) hy rfl ?_
  intro p e s m args below meth c s₁ B hml hv
  obtain ⟨rfl, hsz, hP, hK, hD0, hZ, hN⟩ := hv
  subst hsz
  have hts0 := atoms_spec (ws := (.code y cc nL ret :: TT)) B.pre
  have key := h (p, l, e, rmL lev mc ms, s, m, av.toArray, below, meth, c, D, (cI, cJ), zt, va_A w0 s.heap.size, nL, MQ below (ctQ D cI cJ (va_A w0 s.heap.size) Q) av.toArray s mc ms (va_A w0 s.heap.size)) rfl rfl rfl rfl rfl rfl rfl (name_of_methodNamed B.named B.method).1
    ⟨B.exec, B.bytes, B.returns, hml, findClass_of_methodNamed B.named, fun w hw => hts0 w (List.mem_cons_of_mem _ hw), B.notSynchronized, hK, fun q hq => Or.inr hq, hZ, rfl, hN⟩
  have hl := lv_entry av (n := nL) hn
  rw [lg_entry_eq]
  exact key _ s.heap [] hl hP (hD0.self (sz := s.heap.size)) va_S.rf
/-- what a caller owes and gets, whatever the kind of call -/
theorem q_call0 {X : Cx} {cc : ByteArray} {own : String} {ret : Option FieldType} {nL k n pc : Nat} {lv : List (Nat × Value)} {stk rest : List Value} {ws wc wr : va_W} {mc ms : Nat} {av : List Value} {Q : Option Value → va_W → Prop}
    (g : Gd X cc own ret nL) (isC isR : List Nat) (hC : isC.map (fun i => ws[i]?) = wc.map some) (hC1 : isC.filterMap (fun i => ws[i]?) = wc) (hR : isR.map (fun i => ws[i]?) = wr.map some) (hnC : va_nd isC = true) (hnR : va_nd isR = true) (hdis : ∀ i ∈ isR, i ∉ isC)
    (hr : ∀ (ls : Array Slot) (H : Heap) (locs : List Loc), lv_has ls X.nL lv → va_P X.D vwCl wc H → (∀ U : State, U.heap = H → X.s.WarmedH U.vm → ctP X.D X.cI X.cJ X.zt av wc H.size av.toArray U) → va_Run X.p X.l X.e X.R X.s X.m X.args X.below X.meth X.c H locs k n mc ms (F0 X.m pc ls stk) rest (ctQ X.D X.cI X.cJ (va_A wc H.size) Q av.toArray) (va_A wc H.size))
    (K : ∀ (rv : Option Value) (w1 : va_W), Q rv w1 → Wat X (k + mc) (n + ms) (pc + 3) lv (rv.toList ++ rest) (wr ++ w1)) : Wat X k n pc lv stk ws := fun ls H locs hl hP hD hS => by
  have hPc := hP.sub isC hC1
  have hDc := hD.sub isC hnC hC
  have hFc := va_free hD hS g.A isC hC
  have hpre : ∀ U : State, U.heap = H → X.s.WarmedH U.vm → ctP X.D X.cI X.cJ X.zt av wc H.size av.toArray U := fun U hU hW => ⟨rfl, by rw [hU], by rw [hU]; exact hPc, va_K.moved hW.alike g.K, hDc.weaken (fun _ _ _ _ => trivial), by
    rw [hU]
    exact ⟨((g.Z.1.kept hS.2.1).narrow hFc).moved hW.alike, ((g.Z.2.kept hS.2.1).narrow hFc).moved hW.alike⟩, g.N.warm hW⟩
  intro T hT S
  obtain ⟨v, st₀, t, T', L, h0, X', hL, e1, e2, ⟨⟨rv, w1, hv, hq, hP1, hK1, hD1⟩, hz, hk⟩, st⟩ := hr ls H locs hl hPc hpre T hT S
  cases hv
  rw [h0] at hz hk
  rw [← e1] at hP1 hz hk
  obtain ⟨hP2, hD2⟩ := va_join hP hD isC isR hC hR hnR hdis hk hFc hP1 hD1
  have hS2 : va_S X.A X.s.heap T'.heap (locs ++ L) := ⟨Nat.le_trans hS.1 hz, fun q h1 h2 => by rw [hk q (Nat.lt_of_lt_of_le h1 hS.1) (fun z => h2 (hFc q z))]; exact hS.2.1 q h1 h2, fun q hq => by
      rcases List.mem_append.mp hq with h | h
      · exact hS.2.2 q h
      · exact hFc _ (hL q h)⟩
  obtain ⟨t2, a1, b1⟩ := K v w1 hq ls T'.heap (locs ++ L) hl hP2 hD2 hS2 T' rfl X'
  exact ⟨t2, st t2 a1, b1⟩
section QC
variable {X : Cx} {cc : ByteArray} {own : String} {ret ret2 : Option FieldType} {nL k n pc : Nat} {lv : List (Nat × Value)} {rest : List Value} {ws wc wr : va_W} {y : MethodName} {bytes : ByteArray} {maxL lev mc ms : Nat} {As : List Value} {Q : Option Value → va_W → Prop}
theorem q_callV (g : Gd X cc own ret nL) (ix : Nat) {a : Nat} (hM : Ct X.l X.D X.cI X.cJ X.zt y bytes maxL ret2 lev mc ms (.ref a :: As) wc Q) (isC isR : List Nat) (hC : isC.map (fun i => ws[i]?) = wc.map some) (hC1 : isC.filterMap (fun i => ws[i]?) = wc) (hR : isR.map (fun i => ws[i]?) = wr.map some) (hnC : va_nd isC = true) (hnR : va_nd isR = true) (hdis : ∀ i ∈ isR, i ∉ isC)
    {ci : Nat} {q : vw_C} {fs : List Value} (hcl : vwCl[ci]? = some q) (hrc : wc[0]? = some (a, .inr (ci, fs))) (hqc : q.1 = y.cls)
    (w1 : Cond.methodLink own ix y ∈ TT) (w2 : Cond.instanceMethod y ∈ TT) (w3 : Cond.selects y.cls y y ∈ TT) (w4 : Cond.initialized y.cls ∈ TT) (w5 : Cond.code y bytes maxL ret2 ∈ TT)
    (na : Nat) (hna : As.length = na) (hy : y.cls ≠ "java/lang/invoke/MethodHandle" ∧ y.cls ≠ "java/lang/invoke/VarHandle" ∧ (parseMethodDescriptor y.desc).map (fun d => d.parameters.length) = some na)
    (hroom : lev + 1 ≤ X.R.frames ∧ 8 + (maxL + 11) + 100 * lev ≤ X.R.locals) (hcs : k + mc ≤ X.R.cells ∧ n + ms ≤ X.R.slots) (hst : (rest.map fun v => v.category).sum ≤ 8) {stk : List Value} (hstk : stk = As.reverse ++ .ref a :: rest)
    (hd : decode cc pc = .ok (.invokevirtual ix, 3))
    (K : ∀ (rv : Option Value) (w1 : va_W), Q rv w1 → Wat X (k + mc) (n + ms) (pc + 3) lv (rv.toList ++ rest) (wr ++ w1)) : Wat X k n pc lv stk ws := by
  refine q_call0 (stk := stk) (av := .ref a :: As) g isC isR hC hC1 hR hnC hnR hdis (fun ls H locs hl hPc hpre => ?_) K
  refine va_runV (Ts := TT) (own := own) (C := y.cls) (cc := cc) (nL := X.nL) (As := As) (bytes := bytes) (maxL := maxL) (ret := ret2) (n := na) ⟨g.x, g.b, g.ml, g.ow, g.ts⟩ (hM H.size) ?_ ⟨ctP_blind, by rw [← hqc]; exact va_recv g.K hPc hcl hrc, hpre⟩ rfl hna hl.1 hstk (lv_room hst) hd hcs
  refine ⟨callB_of na g.ts ?_ rfl rfl rfl (g.ts _ w4) (g.ts _ w1) hy hroom, g.ts _ w2, g.ts _ w3⟩
  intro w hw
  have hm : w ∈ TT := by rcases List.mem_cons.mp hw with h | h; (rw [h]; exact w5); exact h
  exact ⟨hm, good_of_word (TT_good w hm)⟩
theorem q_callS (g : Gd X cc own ret nL) (ix : Nat) (hM : Ct X.l X.D X.cI X.cJ X.zt y bytes maxL ret2 lev mc ms As wc Q) (isC isR : List Nat) (hC : isC.map (fun i => ws[i]?) = wc.map some) (hC1 : isC.filterMap (fun i => ws[i]?) = wc) (hR : isR.map (fun i => ws[i]?) = wr.map some) (hnC : va_nd isC = true) (hnR : va_nd isR = true) (hdis : ∀ i ∈ isR, i ∉ isC)
    (w1 : Cond.methodLink own ix y ∈ TT) (w2 : Cond.static y ∈ TT) (w4 : Cond.initialized y.cls ∈ TT) (w5 : Cond.code y bytes maxL ret2 ∈ TT)
    (na : Nat) (hna : As.length = na) (hy : y.cls ≠ "java/lang/invoke/MethodHandle" ∧ y.cls ≠ "java/lang/invoke/VarHandle" ∧ (parseMethodDescriptor y.desc).map (fun d => d.parameters.length) = some na)
    (hroom : lev + 1 ≤ X.R.frames ∧ 8 + (maxL + 11) + 100 * lev ≤ X.R.locals) (hcs : k + mc ≤ X.R.cells ∧ n + ms ≤ X.R.slots) (hst : (rest.map fun v => v.category).sum ≤ 8) {stk : List Value} (hstk : stk = As.reverse ++ rest)
    (hd : decode cc pc = .ok (.invokestatic ix, 3))
    (K : ∀ (rv : Option Value) (w1 : va_W), Q rv w1 → Wat X (k + mc) (n + ms) (pc + 3) lv (rv.toList ++ rest) (wr ++ w1)) : Wat X k n pc lv stk ws := by
  refine q_call0 (stk := stk) (av := As) g isC isR hC hC1 hR hnC hnR hdis (fun ls H locs hl hPc hpre => ?_) K
  refine va_runS (Ts := TT) (own := own) (cc := cc) (nL := X.nL) (As := As) (bytes := bytes) (maxL := maxL) (ret := ret2) (n := na) ⟨g.x, g.b, g.ml, g.ow, g.ts⟩ (hM H.size) ?_ ⟨ctP_blind, hpre⟩ rfl hna hl.1 hstk (lv_room hst) hd hcs
  refine ⟨callB_of na g.ts ?_ rfl rfl rfl (g.ts _ w4) (g.ts _ w1) hy hroom, g.ts _ w2⟩
  intro w hw
  have hm : w ∈ TT := by rcases List.mem_cons.mp hw with h | h; (rw [h]; exact w5); exact h
  exact ⟨hm, good_of_word (TT_good w hm)⟩
theorem q_callSN (g : Gd X cc own ret nL) (ix : Nat) {host : String} (hM : Ct X.l X.D X.cI X.cJ X.zt y bytes maxL ret2 lev mc ms As wc Q) (isC isR : List Nat) (hC : isC.map (fun i => ws[i]?) = wc.map some) (hC1 : isC.filterMap (fun i => ws[i]?) = wc) (hR : isR.map (fun i => ws[i]?) = wr.map some) (hnC : va_nd isC = true) (hnR : va_nd isR = true) (hdis : ∀ i ∈ isR, i ∉ isC)
    (w1 : (own, ix, y, host) ∈ NNl) (w2 : Cond.static y ∈ TT) (w4 : Cond.initialized y.cls ∈ TT) (w5 : Cond.code y bytes maxL ret2 ∈ TT)
    (na : Nat) (hna : As.length = na) (hy : y.cls ≠ "java/lang/invoke/MethodHandle" ∧ y.cls ≠ "java/lang/invoke/VarHandle" ∧ (parseMethodDescriptor y.desc).map (fun d => d.parameters.length) = some na)
    (hroom : lev + 1 ≤ X.R.frames ∧ 8 + (maxL + 11) + 100 * lev ≤ X.R.locals) (hcs : k + mc ≤ X.R.cells ∧ n + ms ≤ X.R.slots) (hst : (rest.map fun v => v.category).sum ≤ 8) {stk : List Value} (hstk : stk = As.reverse ++ rest)
    (hd : decode cc pc = .ok (.invokestatic ix, 3))
    (K : ∀ (rv : Option Value) (w1 : va_W), Q rv w1 → Wat X (k + mc) (n + ms) (pc + 3) lv (rv.toList ++ rest) (wr ++ w1)) : Wat X k n pc lv stk ws := by
  refine q_call0 (stk := stk) (av := As) g isC isR hC hC1 hR hnC hnR hdis (fun ls H locs hl hPc hpre => ?_) K
  refine va_runSN (Ts := TT) (own := own) (host := host) (cc := cc) (nL := X.nL) (As := As) (bytes := bytes) (maxL := maxL) (ret := ret2) (n := na) ⟨g.x, g.b, g.ml, g.ow, g.ts⟩ (hM H.size) ?_ ⟨ctP_blind, hpre⟩ rfl hna hl.1 hstk (lv_room hst) hd hcs
  refine ⟨va_cnB na g.ts ?_ rfl rfl rfl (g.N _ w1) (g.ts _ w4) hy hroom, g.ts _ w2, trivial⟩
  intro w hw
  have hm : w ∈ TT := by rcases List.mem_cons.mp hw with h | h; (rw [h]; exact w5); exact h
  exact ⟨hm, good_of_word (TT_good w hm)⟩
end QC
