/-! THE CLAIM OUT OF ONE WALK OF THE LAW'S BODY. Your part is whole_start (and what it stands on); all else here is the same for every law, but numbers. -/
def R_law : String := "SingleSharesLaw"
def lw_P (b : Addr) (xs : List Int32) (args : Array Value) (s : State) : Prop := args = #[.ref b] ∧ s.IntsAt b xs ∧ xs.length ≤ 2560 ∧ (Jvm.Cond.and given_1 narrow_1).before args s = true
def lw_Q (_ : Array Value) (s : State) (o : Outcome) (t : State) : Prop := o = .returned (some (.int 1)) ∧ Framed s o t [] 600000 7302250
def lw_Z (below : List Frame) (a : Array Value) (s : State) : State → Prop := fun t => ∃ o, t.status = .running ∧ Ended t below o ∧ lw_Q a s o t
/-- the law's own end, with 1 on the stack, nothing written that was there before, its room as the claim has it -/
theorem lw_ret {p : Program} {l : Launch} {e : Env} {s : State} {m : MethodId} {below : List Frame} {meth : Method} {c : Code} {b : Nat} (hx : p.tables.exec = Jvm.exec) (hb : c.code = code) (hr : meth.sig.returnType = ret) (hlocks : meth.locks = false) {pc : Nat} {H : Heap} {ls : Array Slot} (hdg : decode code pc = .ok (.ireturn, 1)) : W p l e room_1 s m #[Value.ref b] below meth c H [] 600000 7302250 (lw_Z below #[Value.ref b] s) (F0 m pc ls [.int 1]) := by
  intro T hT X
  obtain ⟨fs, hret, hrun, hended, hW, hframe⟩ := X.leave (v := some (.int 1)) (hlocks := hlocks) (fun h => by rw [hr] at h; cases h)
  have hmeth' : T.vm.method? m = some meth := X.method'
  refine ⟨T.setFrames fs, ?_, .returned (some (.int 1)), hrun, hended, rfl, ⟨_, rfl⟩, hW, hframe⟩
  jvm_step X.here [X.here.top, hx, hb, hdg, hmeth', hr, ret, narrow_b1]
  (try refine ⟨rfl, ?_⟩); (try refine ⟨rfl, ?_⟩)
  first | (intro acts; rw [hret _ acts rfl rfl rfl]) | rw [hret _ _ rfl rfl rfl]
  exact Steps.refl _
/-- what holds at the law's entry: the machine, the code, the tables' words (any of lw_tbl by 'hts w (by decide +kernel)'), the script of L ints xs at the cell b, what the Statement gives of the start (any of its parts by flat_of_before) -/
def lw_At (p : Program) (s : State) (m : MethodId) (meth : Method) (c : Code) (b L : Nat) (xs : Nat → Int32) : Prop :=
  p.tables.exec = Jvm.exec ∧ c.code = code ∧ meth.sig.returnType = ret ∧ c.maxLocals = 4 ∧ s.vm.findClass R_law = some m.cls ∧ (∀ w ∈ lw_tbl, w.before #[Value.ref b] s = true) ∧ va_X b L xs s s.heap ∧ b < s.heap.size ∧ meth.locks = false ∧ (Jvm.Cond.and given_1 narrow_1).before #[Value.ref b] s = true
def xsI (xs : Nat → Int32) (i : Int) : Int := (xs i.toNat).toInt
/-- what the law's walk knows of its own start -/
def LawC (X : Cx) (b L : Nat) (xs : Nat → Int32) : Prop := va_X b L xs X.s X.s.heap ∧ b < X.s.heap.size ∧ ¬ X.A b ∧ L ≤ 2560 ∧ X.F = lw_Z X.below #[Value.ref b] X.s ∧ X.args = #[Value.ref b] ∧ (∀ q, X.A q → X.s.heap.size ≤ q)
section QL
variable {X : Cx} {cc : ByteArray} {own : String} {rt : Option FieldType} {nL k n pc : Nat} {lv : List (Nat × Value)} {st : List Value} {ws : va_W} {b L : Nat} {xs : Nat → Int32}
theorem LawC.rL (LC : LawC X b L xs) : r32 (L : Int) := zrng (by have := LC.2.2.2.1; omega)
theorem q_sld (g : Gd X cc own rt nL) (LC : LawC X b L xs) {x : Int} (h0 : 0 ≤ x) (h1 : x < (L : Int)) (hd : decode cc pc = .ok (.iaload, 1)) (K : Wat X k n (pc + 1) lv (.int (i32 (xsI xs x)) :: st) ws) : Wat X k n pc lv (.int (i32 x) :: .ref b :: st) ws := fun ls H locs hl hP hD hS => by
  have hL := LC.2.2.2.1
  refine va_sld g.x g.b LC.1 LC.2.1 LC.2.2.1 hS (idx_in h0 h1 (by omega)) hd ?_
  have h := K ls H locs hl hP hD hS
  have e : (i32 x).toNatClampNeg = x.toNat := by have := idx_c h0 (by omega); omega
  unfold xsI at h
  rw [i32_of] at h
  rw [e]
  exact h
theorem q_slen (g : Gd X cc own rt nL) (LC : LawC X b L xs) (hd : decode cc pc = .ok (.arraylength, 1)) (K : Wat X k n (pc + 1) lv (.int (i32 (L : Int)) :: st) ws) : Wat X k n pc lv (.ref b :: st) ws := fun ls H locs hl hP hD hS =>
  va_slen g.x g.b LC.1 LC.2.1 LC.2.2.1 hS hd (K ls H locs hl hP hD hS)
theorem q_lawret (g : Gd X cL_law RL (some .boolean) 4) (LC : LawC X b L xs) {v : Int} (hv : v = 1) (hR : X.R = room_1) (hk : k ≤ 600000) (hn : n ≤ 7302250) (hd : decode cL_law pc = .ok (.ireturn, 1)) : Wat X k n pc lv [.int (i32 v)] ws := fun ls H locs hl hP hD hS => by
  subst hv
  rw [LC.2.2.2.2.1, hR, LC.2.2.2.2.2.1]
  refine va_forget (fun q hq => LC.2.2.2.2.2.2 _ (hS.2.2 q hq)) ?_
  refine W.widen (k := 600000) (n := 7302250) hk hn ?_
  exact lw_ret g.x g.b g.r g.lk hd
end QL
