section QN
variable {X : Cx} {cc : ByteArray} {own : String} {ret ret2 : Option FieldType} {nL k n pc : Nat} {lv : List (Nat × Value)} {st rest : List Value} {ws wc wr : va_W} {y : MethodName} {bytes : ByteArray} {maxL lev mc ms : Nat} {As : List Value} {Q : Option Value → va_W → Prop}
theorem clamp_N {N : Nat} (h : N < 2147483648) : (i32 (N : Int)).toNatClampNeg = N := by
  have := idx_c (x := (N : Int)) (by omega) (by omega)
  omega
theorem q_newaI (g : Gd X cc own ret nL) (N : Nat) {v : Int} (hv : (N : Int) = v) (hN : N < 2147483648) (hb : N * componentBytes .int ≤ 536870912) (w : Cond.arrayClass .int ∈ TT) (hc : k + 1 ≤ X.R.cells) (hs : n + N ≤ X.R.slots) (hd : decode cc pc = .ok (.newarray .int, 2)) (K : ∀ q : Nat, Wat X (k + 1) (n + N) (pc + 2) lv (.ref q :: st) (ws ++ [(q, aI X.cI N (fun _ => 0))])) : Wat X k n pc lv (.int (i32 v) :: st) ws := fun ls H locs hl hP hD hS => by
  subst hv
  refine va_newa (atype := .int) g.x g.b (g.ts _ w) rfl g.K hP hD hS g.A (a0 := (N, .inl (fun _ => 0))) (fun _ => rfl) (by rw [show (0 : Int32) = i32 0 from rfl, i32_lt ⟨by omega, by omega⟩ r32_0]; omega) (clamp_N hN) hb hc hs hd (fun q cA H1 hK1 hP1 hD1 hS1 => ?_)
  have e : cA = X.cI := by
    have h1 := (hK1.2 2 (cA, .int) rfl).2
    have h2 := (g.K.2 0 (X.cI, .int) rfl).2
    exact Option.some.inj (h1.symm.trans h2)
  subst e
  exact K q ls H1 locs hl hP1 hD1 hS1
theorem q_newaL (g : Gd X cc own ret nL) (N : Nat) {v : Int} (hv : (N : Int) = v) (hN : N < 2147483648) (hb : N * componentBytes .long ≤ 536870912) (w : Cond.arrayClass .long ∈ TT) (hc : k + 1 ≤ X.R.cells) (hs : n + N ≤ X.R.slots) (hd : decode cc pc = .ok (.newarray .long, 2)) (K : ∀ q : Nat, Wat X (k + 1) (n + N) (pc + 2) lv (.ref q :: st) (ws ++ [(q, aL X.cJ N (fun _ => 0))])) : Wat X k n pc lv (.int (i32 v) :: st) ws := fun ls H locs hl hP hD hS => by
  subst hv
  refine va_newa (atype := .long) g.x g.b (g.ts _ w) rfl g.K hP hD hS g.A (a0 := (N, .inr (.inl (fun _ => 0)))) (fun _ => rfl) (by rw [show (0 : Int32) = i32 0 from rfl, i32_lt ⟨by omega, by omega⟩ r32_0]; omega) (clamp_N hN) hb hc hs hd (fun q cA H1 hK1 hP1 hD1 hS1 => ?_)
  have e : cA = X.cJ := by
    have h1 := (hK1.2 2 (cA, .long) rfl).2
    have h2 := (g.K.2 1 (X.cJ, .long) rfl).2
    exact Option.some.inj (h1.symm.trans h2)
  subst e
  exact K q ls H1 locs hl hP1 hD1 hS1
theorem q_new (g : Gd X cc own ret nL) (ix : Nat) {ci N : Nat} {C : String} {T : u_T} {fs : List Value} {ty : Nat → FieldType} (hin : ∀ w ∈ u_ws C T N, w ∈ TT) (hty : ∀ k, k < N → parseFieldDescriptor (T k).2.2.1 = some (ty k)) (w1 : Cond.classLink own ix C ∈ TT) (w2 : Cond.instantiable C N ∈ TT) (w3 : Cond.initialized C ∈ TT) (hcl : vwCl[ci]? = some (C, T, N)) (hfs : ∀ j, j < N → defaultValue (ty j) = vp_V fs j) (hc : k + 1 ≤ X.R.cells) (hs : n + N ≤ X.R.slots) (hd : decode cc pc = .ok (.new ix, 3)) (K : ∀ q : Nat, Wat X (k + 1) (n + N) (pc + 3) lv (.ref q :: st) (ws ++ [(q, .inr (ci, fs))])) : Wat X k n pc lv st ws := fun ls H locs hl hP hD hS =>
  va_new g.x g.b g.ts hin ty hty g.ow (g.ts _ w1) (g.ts _ w2) (g.ts _ w3) g.K hP hD hS g.A hcl hfs hc hs hd (fun q H1 hP1 hD1 hS1 => K q ls H1 locs hl hP1 hD1 hS1)
theorem q_objInit (g : Gd X cc own ret nL) (ix : Nat) {a : Nat} (w1 : Cond.methodLink own ix Lib.objectInit ∈ TT) (w2 : Cond.instanceMethod Lib.objectInit ∈ TT) (w3 : Cond.code Lib.objectInit ⟨#[0xb1]⟩ 1 none ∈ TT) (hf : 1 ≤ X.R.frames ∧ 100 ≤ X.R.locals) (hst : (st.map fun v => v.category).sum ≤ 8) (hd : decode cc pc = .ok (.invokespecial ix, 3)) (K : Wat X k n (pc + 3) lv st ws) : Wat X k n pc lv (.ref a :: st) ws := fun ls H locs hl hP hD hS => by
  refine W.objInit g.x g.b g.ow (g.ts _ w1) (g.ts _ w2) (g.ts _ w3) rfl (by rw [g.ml]; exact hl.1) rfl hd hf.1 (by have h1 := lv_room (m := X.m) (pc := pc) (ls := ls) (rest := .ref a :: st) hst; have := hf.2; omega) ?_
  exact W.eq (g2 := F0 X.m (pc + 3) ls st) rfl (K ls H locs hl hP hD hS)
theorem q_callI (g : Gd X cc own ret nL) (ix : Nat) {a : Nat} (hM : Ct X.l X.D X.cI X.cJ X.zt y bytes maxL none lev mc ms (.ref a :: As) wc Q) (isC isR : List Nat) (hC : isC.map (fun i => ws[i]?) = wc.map some) (hC1 : isC.filterMap (fun i => ws[i]?) = wc) (hR : isR.map (fun i => ws[i]?) = wr.map some) (hnC : va_nd isC = true) (hnR : va_nd isR = true) (hdis : ∀ i ∈ isR, i ∉ isC)
    (w1 : Cond.methodLink own ix y ∈ TT) (w2 : Cond.instanceMethod y ∈ TT) (w4 : Cond.initialized y.cls ∈ TT) (w5 : Cond.code y bytes maxL none ∈ TT) (hyn : y.name = "<init>")
    (na : Nat) (hna : As.length = na) (hy : y.cls ≠ "java/lang/invoke/MethodHandle" ∧ y.cls ≠ "java/lang/invoke/VarHandle" ∧ (parseMethodDescriptor y.desc).map (fun d => d.parameters.length) = some na)
    (hroom : lev + 1 ≤ X.R.frames ∧ 8 + (maxL + 11) + 100 * lev ≤ X.R.locals) (hcs : k + mc ≤ X.R.cells ∧ n + ms ≤ X.R.slots) (hst : (rest.map fun v => v.category).sum ≤ 8) {stk : List Value} (hstk : stk = As.reverse ++ .ref a :: rest)
    (hd : decode cc pc = .ok (.invokespecial ix, 3))
    (K : ∀ (rv : Option Value) (w1 : va_W), Q rv w1 → Wat X (k + mc) (n + ms) (pc + 3) lv (rv.toList ++ rest) (wr ++ w1)) : Wat X k n pc lv stk ws := by
  refine q_call0 (stk := stk) (av := .ref a :: As) g isC isR hC hC1 hR hnC hnR hdis (fun ls H locs hl hPc hpre => ?_) K
  refine va_runI (Ts := TT) (own := own) (cc := cc) (nL := X.nL) (As := As) (bytes := bytes) (maxL := maxL) (n := na) ⟨g.x, g.b, g.ml, g.ow, g.ts⟩ (hM H.size) ?_ ⟨ctP_blind, hpre⟩ rfl hna hl.1 hstk (lv_room hst) hd hcs
  refine ⟨callB_of na g.ts ?_ rfl rfl rfl (g.ts _ w4) (g.ts _ w1) hy hroom, hyn, g.ts _ w2⟩
  intro w hw
  have hm : w ∈ TT := by rcases List.mem_cons.mp hw with h | h; (rw [h]; exact w5); exact h
  exact ⟨hm, good_of_word (TT_good w hm)⟩
theorem q_callIN (g : Gd X cc own ret nL) (ix : Nat) {host : String} {a : Nat} (hM : Ct X.l X.D X.cI X.cJ X.zt y bytes maxL none lev mc ms (.ref a :: As) wc Q) (isC isR : List Nat) (hC : isC.map (fun i => ws[i]?) = wc.map some) (hC1 : isC.filterMap (fun i => ws[i]?) = wc) (hR : isR.map (fun i => ws[i]?) = wr.map some) (hnC : va_nd isC = true) (hnR : va_nd isR = true) (hdis : ∀ i ∈ isR, i ∉ isC)
    (w1 : (own, ix, y, host) ∈ NNl) (w2 : Cond.instanceMethod y ∈ TT) (w4 : Cond.initialized y.cls ∈ TT) (w5 : Cond.code y bytes maxL none ∈ TT) (hyn : y.name = "<init>")
    (na : Nat) (hna : As.length = na) (hy : y.cls ≠ "java/lang/invoke/MethodHandle" ∧ y.cls ≠ "java/lang/invoke/VarHandle" ∧ (parseMethodDescriptor y.desc).map (fun d => d.parameters.length) = some na)
    (hroom : lev + 1 ≤ X.R.frames ∧ 8 + (maxL + 11) + 100 * lev ≤ X.R.locals) (hcs : k + mc ≤ X.R.cells ∧ n + ms ≤ X.R.slots) (hst : (rest.map fun v => v.category).sum ≤ 8) {stk : List Value} (hstk : stk = As.reverse ++ .ref a :: rest)
    (hd : decode cc pc = .ok (.invokespecial ix, 3))
    (K : ∀ (rv : Option Value) (w1 : va_W), Q rv w1 → Wat X (k + mc) (n + ms) (pc + 3) lv (rv.toList ++ rest) (wr ++ w1)) : Wat X k n pc lv stk ws := by
  refine q_call0 (stk := stk) (av := .ref a :: As) g isC isR hC hC1 hR hnC hnR hdis (fun ls H locs hl hPc hpre => ?_) K
  refine va_runIN (Ts := TT) (own := own) (host := host) (cc := cc) (nL := X.nL) (As := As) (bytes := bytes) (maxL := maxL) (n := na) ⟨g.x, g.b, g.ml, g.ow, g.ts⟩ (hM H.size) ?_ ⟨ctP_blind, hpre⟩ rfl hna hl.1 hstk (lv_room hst) hd hcs
  refine ⟨va_cnB na g.ts ?_ rfl rfl rfl (g.N _ w1) (g.ts _ w4) hy hroom, hyn, g.ts _ w2⟩
  intro w hw
  have hm : w ∈ TT := by rcases List.mem_cons.mp hw with h | h; (rw [h]; exact w5); exact h
  exact ⟨hm, good_of_word (TT_good w hm)⟩
end QN
